/-! PURE: numbers -/
theorem ti_add {x y : Int32} (h1 : -2147483648 ≤ x.toInt + y.toInt) (h2 : x.toInt + y.toInt < 2147483648) : (x + y).toInt = x.toInt + y.toInt := by
  rw [Int32.toInt_add]; exact Int.bmod_eq_of_le (by omega) (by omega)
theorem ti_sub {x y : Int32} (h1 : -2147483648 ≤ x.toInt - y.toInt) (h2 : x.toInt - y.toInt < 2147483648) : (x - y).toInt = x.toInt - y.toInt := by
  rw [Int32.toInt_sub]; exact Int.bmod_eq_of_le (by omega) (by omega)
theorem ti_mul {x y : Int32} (h1 : -2147483648 ≤ x.toInt * y.toInt) (h2 : x.toInt * y.toInt < 2147483648) : (x * y).toInt = x.toInt * y.toInt := by
  rw [Int32.toInt_mul]; exact Int.bmod_eq_of_le (by omega) (by omega)
theorem tl_add {x y : Int64} (h1 : -9223372036854775808 ≤ x.toInt + y.toInt) (h2 : x.toInt + y.toInt < 9223372036854775808) : (x + y).toInt = x.toInt + y.toInt := by
  rw [Int64.toInt_add]; exact Int.bmod_eq_of_le (by omega) (by omega)
theorem tl_sub {x y : Int64} (h1 : -9223372036854775808 ≤ x.toInt - y.toInt) (h2 : x.toInt - y.toInt < 9223372036854775808) : (x - y).toInt = x.toInt - y.toInt := by
  rw [Int64.toInt_sub]; exact Int.bmod_eq_of_le (by omega) (by omega)
theorem tl_mul {x y : Int64} (h1 : -9223372036854775808 ≤ x.toInt * y.toInt) (h2 : x.toInt * y.toInt < 9223372036854775808) : (x * y).toInt = x.toInt * y.toInt := by
  rw [Int64.toInt_mul]; exact Int.bmod_eq_of_le (by omega) (by omega)
theorem t64 (x : Int32) : x.toInt64.toInt = x.toInt := Int32.toInt_toInt64 x
theorem t32 {x : Int64} (h1 : -2147483648 ≤ x.toInt) (h2 : x.toInt < 2147483648) : x.toInt32.toInt = x.toInt := by
  rw [Int64.toInt_toInt32]; exact Int.bmod_eq_of_le (by omega) (by omega)
theorem i_lo (x : Int32) : -2147483648 ≤ x.toInt := by have := Int32.le_toInt x; omega
theorem i_hi (x : Int32) : x.toInt < 2147483648 := by have := Int32.toInt_lt x; omega
theorem l_lo (x : Int64) : -9223372036854775808 ≤ x.toInt := by have := Int64.le_toInt x; omega
theorem l_hi (x : Int64) : x.toInt < 9223372036854775808 := by have := Int64.toInt_lt x; omega
theorem i_lt {x y : Int32} : x < y ↔ x.toInt < y.toInt := Int32.lt_iff_toInt_lt
theorem i_le {x y : Int32} : x ≤ y ↔ x.toInt ≤ y.toInt := Int32.le_iff_toInt_le
theorem i_eq {x y : Int32} : x = y ↔ x.toInt = y.toInt := Int32.toInt_inj.symm
theorem l_lt {x y : Int64} : x < y ↔ x.toInt < y.toInt := Int64.lt_iff_toInt_lt
theorem l_le {x y : Int64} : x ≤ y ↔ x.toInt ≤ y.toInt := Int64.le_iff_toInt_le
theorem l_eq {x y : Int64} : x = y ↔ x.toInt = y.toInt := Int64.toInt_inj.symm
theorem nI_ti {n : Nat} (h : n < 2147483648) : (nI n).toInt = (n : Int) := nI_toInt h
/-- a number that is not below 0 is a place -/
theorem i_nI {x : Int32} (h : 0 ≤ x.toInt) : x = nI x.toInt.toNat := by
  have := i_hi x
  rw [i_eq, nI_ti (by omega)]; omega
theorem i_ex {x : Int32} (h : 0 ≤ x.toInt) : ∃ k : Nat, x = nI k ∧ (k : Int) = x.toInt := ⟨x.toInt.toNat, i_nI h, by omega⟩
theorem nI_lin (a b l : Nat) : nI a + nI b * nI l = nI (a + b * l) := by rw [pk_mul, nI_add]
theorem rd_nI {f : Nat → Int32} {n k : Nat} (h : k < n) (hn : n < 2147483648) : rd f n (nI k) = some (f k) := by
  have e : (nI k).toInt = (k : Int) := nI_ti (by omega)
  unfold rd
  rw [if_pos (by omega), nI_clamp (by omega)]
theorem wr_nI {f : Nat → Int32} {n k : Nat} {x : Int32} (h : k < n) (hn : n < 2147483648) : wr f n (nI k) x = some (upd f k x) := by
  have e : (nI k).toInt = (k : Int) := nI_ti (by omega)
  unfold wr
  rw [if_pos (by omega), nI_clamp (by omega)]
theorem rd_at {f : Nat → Int32} {n : Nat} {i : Int32} (k : Nat) (hi : i = nI k) (h : k < n) (hn : n < 2147483648) : rd f n i = some (f k) := by rw [hi]; exact rd_nI h hn
theorem wr_at {f : Nat → Int32} {n : Nat} {i x : Int32} (k : Nat) (hi : i = nI k) (h : k < n) (hn : n < 2147483648) : wr f n i x = some (upd f k x) := by rw [hi]; exact wr_nI h hn
-- states
theorem fI_sI (S : St) (k j : Nat) (x : Int32) : fI (sI S k x) j = if j = k then x else fI S j := rfl
theorem fI_sL (S : St) (k j : Nat) (x : Int64) : fI (sL S k x) j = fI S j := rfl
theorem fI_sA (S : St) (k j : Nat) (x : Nat → Int32) : fI (sA S k x) j = fI S j := rfl
theorem fL_sI (S : St) (k j : Nat) (x : Int32) : fL (sI S k x) j = fL S j := rfl
theorem fL_sL (S : St) (k j : Nat) (x : Int64) : fL (sL S k x) j = if j = k then x else fL S j := rfl
theorem fL_sA (S : St) (k j : Nat) (x : Nat → Int32) : fL (sA S k x) j = fL S j := rfl
theorem fA_sI (S : St) (k j : Nat) (x : Int32) : fA (sI S k x) j = fA S j := rfl
theorem fA_sL (S : St) (k j : Nat) (x : Int64) : fA (sL S k x) j = fA S j := rfl
theorem fA_sA (S : St) (k j : Nat) (x : Nat → Int32) : fA (sA S k x) j = if j = k then x else fA S j := rfl
theorem up_s (f : Nat → Int32) (k : Nat) (x : Int32) : upd f k x k = x := by simp [upd]
theorem up_n (f : Nat → Int32) {k j : Nat} (x : Int32) (h : j ≠ k) : upd f k x j = f j := by simp [upd, h]
theorem up_e (f : Nat → Int32) (k j : Nat) (x : Int32) : upd f k x j = if j = k then x else f j := rfl
theorem ob {α β : Type} (a : α) (f : α → Option β) : (some a).bind f = f a := rfl
-- leaves of both
theorem w_within (S : St) (a b c : Int32) : mX9_within S a b c = some (if a < b ∨ c < a then 0 else 1) := by
  unfold mX9_within
  by_cases h1 : a < b
  · simp [h1]
  · by_cases h2 : c < a <;> simp [h1, h2]
theorem w_in (S : St) (a b c : Int32) : mX10_in S a b c = some (if a < b ∨ c < a then 0 else 1) := by
  unfold mX10_in
  by_cases h1 : a < b
  · simp [h1]
  · by_cases h2 : c < a <;> simp [h1, h2]
theorem zb_ite {α : Type} {c : Prop} [Decidable c] (x : α) : zb (if c then (0 : Int32) else 1) x = some x := by
  by_cases h : c <;> simp [zb, h]
theorem w_isDay (S : St) (a : Int32) : mX9_isDay S a = some (if a < 0 ∨ 99 < a then 0 else 1) := by
  unfold mX9_isDay; rw [w_within, ob, zb_ite]
theorem w_isMinute (S : St) (a : Int32) : mX9_isMinute S a = some (if a < 0 ∨ 1439 < a then 0 else 1) := by
  unfold mX9_isMinute; rw [w_within, ob, zb_ite]
theorem w_isSpeed (S : St) (a : Int32) : mX9_isSpeed S a = some (if a < 1400 ∨ 1600 < a then 0 else 1) := by
  unfold mX9_isSpeed; rw [w_within, ob, zb_ite]
theorem w_isSquare (S : St) (a : Int32) : mX9_isSquare S a = some (if a < 0 ∨ 255 < a then 0 else 1) := by
  unfold mX9_isSquare; rw [w_within, ob, zb_ite]
theorem w_isDensity (S : St) (a : Int32) : mX9_isDensity S a = some (if a < 1 ∨ 6 < a then 0 else 1) := by
  unfold mX9_isDensity; rw [w_within, ob, zb_ite]
theorem w_isReach (S : St) (a : Int32) : mX9_isReach S a = some (if a < 0 ∨ 400 < a then 0 else 1) := by
  unfold mX9_isReach; rw [w_within, ob, zb_ite]
