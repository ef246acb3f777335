/-! PURE: floors -/
theorem lc_ge {x y : Int64} : 0 ≤ lg_cmp x y ↔ y.toInt ≤ x.toInt := by
  unfold lg_cmp
  by_cases h1 : y < x
  · rw [if_pos h1]; rw [l_lt] at h1; exact ⟨fun _ => by omega, fun _ => by decide⟩
  · rw [if_neg h1]; rw [l_lt] at h1
    by_cases h2 : x = y
    · rw [if_pos h2]; exact ⟨fun _ => by rw [h2]; omega, fun _ => by decide⟩
    · rw [if_neg h2]; rw [l_eq] at h2; exact ⟨fun h => absurd h (by decide), fun h => by omega⟩
theorem lc_eq {x y : Int64} : lg_cmp x y = 0 ↔ x.toInt = y.toInt := by
  unfold lg_cmp
  by_cases h1 : y < x
  · rw [if_pos h1]; rw [l_lt] at h1; exact ⟨fun h => absurd h (by decide), fun _ => by omega⟩
  · rw [if_neg h1]
    by_cases h2 : x = y
    · rw [if_pos h2]; exact ⟨fun _ => by rw [h2], fun _ => rfl⟩
    · rw [if_neg h2]; rw [l_eq] at h2; exact ⟨fun h => absurd h (by decide), fun h => absurd h h2⟩
theorem lc_le {x y : Int64} : lg_cmp x y ≤ 0 ↔ x.toInt ≤ y.toInt := by
  unfold lg_cmp
  by_cases h1 : y < x
  · rw [if_pos h1]; rw [l_lt] at h1; exact ⟨fun h => absurd h (by decide), fun _ => by omega⟩
  · rw [if_neg h1]; rw [l_lt] at h1
    by_cases h2 : x = y
    · rw [if_pos h2]; exact ⟨fun _ => by rw [h2]; omega, fun _ => by decide⟩
    · rw [if_neg h2]; exact ⟨fun _ => by omega, fun _ => by decide⟩
theorem l0 : (0 : Int64).toInt = 0 := rfl
theorem l_neg (x : Int64) : x.toInt < 0 ↔ x.toBitVec.msb = true := by
  have : x.toBitVec.msb = decide (x.toBitVec.toInt < 0) := BitVec.msb_eq_toInt
  rw [this]
  simp
theorem l_xor {x y : Int64} (hy : 0 < y.toInt) : (x ^^^ y).toInt < 0 ↔ x.toInt < 0 := by
  rw [l_neg, l_neg]
  have e : (x ^^^ y).toBitVec = x.toBitVec ^^^ y.toBitVec := rfl
  have hy2 : y.toBitVec.msb = false := by
    have := l_neg y
    cases h : y.toBitVec.msb
    · rfl
    · rw [h] at this; have := this.mpr rfl; omega
  rw [e, BitVec.msb_xor, hy2]
  simp
/-- a quotient cut towards 0, and the floor -/
theorem td_fl (x y : Int) (hy : 0 < y) : x.tdiv y = x / y + (if 0 ≤ x ∨ y ∣ x then 0 else 1) := by
  rw [Int.tdiv_eq_ediv]
  congr 1
  by_cases h : 0 ≤ x ∨ y ∣ x
  · rw [if_pos h, if_pos h]
  · rw [if_neg h, if_neg h]; exact Int.sign_eq_one_of_pos hy
theorem fl_b {x y : Int} (hy : 0 < y) {B : Int} (hB : 0 ≤ B) (h1 : -B ≤ x) (h2 : x ≤ B) : -B - 1 ≤ x / y ∧ x / y ≤ B := by
  constructor
  · rw [Int.le_ediv_iff_mul_le hy]
    have : (-B - 1) * y ≤ (-B - 1) * 1 := Int.mul_le_mul_of_nonpos_left (by omega) (by omega)
    omega
  · have := Int.ediv_le_self (a := x) y
    by_cases c : 0 ≤ x
    · have := Int.ediv_le_self y c; omega
    · have : x / y < 0 := Int.ediv_neg_of_neg_of_pos (by omega) hy
      omega
theorem l_div {x y : Int64} (hy : 0 < y.toInt) (h1 : -1000000000000000 ≤ x.toInt) (h2 : x.toInt ≤ 1000000000000000) : (x / y).toInt = x.toInt.tdiv y.toInt := by
  rw [Int64.toInt_div]
  have q := td_fl x.toInt y.toInt hy
  have b := fl_b (B := 1000000000000000) hy (by omega) h1 h2
  refine Int.bmod_eq_of_le ?_ ?_
  · rw [q]; split <;> omega
  · rw [q]; split <;> omega
theorem floorDiv_ok (S : St) {x y : Int64} (hy : 0 < y.toInt) (h1 : -1000000000000000 ≤ x.toInt) (h2 : x.toInt ≤ 1000000000000000) : ∃ q, mJ9_floorDiv S x y = some q ∧ q.toInt = x.toInt / y.toInt := by
  unfold mJ9_floorDiv
  have d := l_div hy h1 h2
  have b := fl_b (B := 1000000000000000) hy (by omega) h1 h2
  have td := td_fl x.toInt y.toInt hy
  have ml := Int.mul_ediv_add_emod x.toInt y.toInt
  have em := Int.emod_nonneg x.toInt (show y.toInt ≠ 0 by omega)
  have eml := Int.emod_lt_of_pos x.toInt hy
  rw [if_neg (by rw [l_eq, l0]; omega)]
  by_cases c1 : x.toInt < 0
  · rw [if_neg (by rw [lc_ge, l0]; have := (l_xor (x := x) hy).mpr c1; omega)]
    have hm : (x / y * y).toInt = x.toInt.tdiv y.toInt * y.toInt := by
      have tm := Int.mul_tdiv_add_tmod x.toInt y.toInt
      have t1 : x.toInt.tdiv y.toInt * y.toInt ≤ 0 := by
        have : x.toInt.tdiv y.toInt ≤ 0 := by
          rw [td]
          have : x.toInt / y.toInt < 0 := Int.ediv_neg_of_neg_of_pos c1 hy
          split <;> omega
        exact Int.mul_nonpos_of_nonpos_of_nonneg this (by omega)
      have t2 : x.toInt ≤ x.toInt.tdiv y.toInt * y.toInt := by
        rw [td]
        rw [Int.mul_comm] at ml
        split
        · rename_i hh
          rcases hh with hh | hh
          · omega
          · have := Int.emod_eq_zero_of_dvd hh; rw [Int.add_zero]; omega
        · rw [Int.add_mul]; omega
      rw [tl_mul (by rw [d]; omega) (by rw [d]; omega), d]
    by_cases c2 : y.toInt ∣ x.toInt
    · have e0 := Int.emod_eq_zero_of_dvd c2
      rw [if_pos (Or.inr c2)] at td
      rw [if_pos (by rw [lc_eq, hm, td, Int.add_zero, Int.mul_comm]; omega)]
      exact ⟨_, rfl, by rw [d, td]; omega⟩
    · rw [if_neg (show ¬ (0 ≤ x.toInt ∨ y.toInt ∣ x.toInt) by rintro (h | h); omega; exact c2 h)] at td
      have ne : ¬ (x.toInt % y.toInt = 0) := fun h => c2 (Int.dvd_of_emod_eq_zero h)
      rw [if_neg (by rw [lc_eq, hm, td, Int.add_mul, Int.mul_comm]; omega)]
      refine ⟨_, rfl, ?_⟩
      have l1 : (1 : Int64).toInt = 1 := rfl
      rw [tl_sub (by rw [d, td, l1]; omega) (by rw [d, td, l1]; omega), d, td, l1]; omega
  · rw [if_pos (by rw [lc_ge, l0]; have := (l_xor (x := x) hy); omega)]
    rw [if_pos (Or.inl (by omega))] at td
    exact ⟨_, rfl, by rw [d, td]; omega⟩
theorem floorOf_ok (S : St) {x y : Int64} (hy : 0 < y.toInt) (h1 : -1000000000000000 ≤ x.toInt) (h2 : x.toInt ≤ 1000000000000000) : ∃ q, mX9_floorOf S x y = some q ∧ q.toInt = x.toInt / y.toInt := by
  unfold mX9_floorOf
  obtain ⟨q, e, h⟩ := floorDiv_ok S hy h1 h2
  rw [if_neg (by rw [lc_le, l0]; omega), e, ob]
  exact ⟨q, rfl, h⟩
theorem below_ok (S : St) {x y : Int64} (hy : 0 < y.toInt) (h1 : -1000000000000000 ≤ x.toInt) (h2 : x.toInt ≤ 1000000000000000) : ∃ q, mX10_below S x y = some q ∧ q.toInt = x.toInt / y.toInt := by
  unfold mX10_below
  have d := l_div hy h1 h2
  have b := fl_b (B := 1000000000000000) hy (by omega) h1 h2
  have td := td_fl x.toInt y.toInt hy
  have ml := Int.mul_ediv_add_emod x.toInt y.toInt
  have em := Int.emod_nonneg x.toInt (show y.toInt ≠ 0 by omega)
  have eml := Int.emod_lt_of_pos x.toInt hy
  rw [if_neg (by rw [l_eq, l0]; omega), if_neg (by rw [l_eq, l0]; omega)]
  have l1 : (1 : Int64).toInt = 1 := rfl
  have yb := l_hi y
  rw [Int.mul_comm] at ml
  by_cases c2 : 0 ≤ x.toInt ∨ y.toInt ∣ x.toInt
  · rw [if_pos c2] at td
    have hm : (x / y * y).toInt = x.toInt / y.toInt * y.toInt := by
      rw [tl_mul (by rw [d, td, Int.add_zero]; omega) (by rw [d, td, Int.add_zero]; omega), d, td, Int.add_zero]
    have hs : (x - x / y * y).toInt = x.toInt % y.toInt := by
      rw [tl_sub (by rw [hm]; omega) (by rw [hm]; omega), hm]; omega
    rw [if_pos (by rw [lc_ge, l0, hs]; omega)]
    exact ⟨_, rfl, by rw [d, td]; omega⟩
  · rw [if_neg c2] at td
    have ne : ¬ (x.toInt % y.toInt = 0) := fun h => c2 (Or.inr (Int.dvd_of_emod_eq_zero h))
    have hm : (x / y * y).toInt = x.toInt / y.toInt * y.toInt + y.toInt := by
      rw [tl_mul (by rw [d, td, Int.add_mul]; omega) (by rw [d, td, Int.add_mul]; omega), d, td, Int.add_mul]; omega
    have hs : (x - x / y * y).toInt = x.toInt % y.toInt - y.toInt := by
      rw [tl_sub (by rw [hm]; omega) (by rw [hm]; omega), hm]; omega
    rw [if_neg (by rw [lc_ge, l0, hs]; omega)]
    refine ⟨_, rfl, ?_⟩
    rw [tl_sub (by rw [d, td, l1]; omega) (by rw [d, td, l1]; omega), d, td, l1]; omega
