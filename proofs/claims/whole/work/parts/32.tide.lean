/-! PURE: the TIDE at a minute -/
def ahd (f : Nat → Int) (m : Int) : Nat → Option Nat
  | 0 => none
  | k + 1 => match ahd f m k with
    | none => if f k ≤ m then some k else none
    | some p => if f k ≤ m ∧ f p < f k then some k else some p
def bhd (f : Nat → Int) (m : Int) : Nat → Option Nat
  | 0 => none
  | k + 1 => match bhd f m k with
    | none => if m ≤ f k then some k else none
    | some p => if m ≤ f k ∧ f k < f p then some k else some p
theorem ahd_p (f : Nat → Int) (m : Int) : ∀ k p, ahd f m k = some p → p < k ∧ f p ≤ m := by
  intro k
  induction k with
  | zero => intro p h; cases h
  | succ k ih =>
    intro p h
    unfold ahd at h
    split at h
    · split at h
      · rename_i c; cases h; exact ⟨by omega, c⟩
      · cases h
    · rename_i q hq
      split at h
      · rename_i c; cases h; refine ⟨by omega, ?_⟩; omega
      · have e : q = p := Option.some.inj h
        have := ih q hq
        exact ⟨by omega, by rw [← e]; exact this.2⟩
theorem bhd_p (f : Nat → Int) (m : Int) : ∀ k p, bhd f m k = some p → p < k ∧ m ≤ f p := by
  intro k
  induction k with
  | zero => intro p h; cases h
  | succ k ih =>
    intro p h
    unfold bhd at h
    split at h
    · split at h
      · rename_i c; cases h; exact ⟨by omega, c⟩
      · cases h
    · rename_i q hq
      split at h
      · rename_i c; cases h; refine ⟨by omega, ?_⟩; omega
      · have e : q = p := Option.some.inj h
        have := ih q hq
        exact ⟨by omega, by rw [← e]; exact this.2⟩
/-- a place or none, as both spell it -/
def en (b : Nat) : Option Nat → Int32
  | none => -1
  | some k => nI (b + k)
theorem en_none {b : Nat} {o : Option Nat} (h : ∀ k, o = some k → k < 100) (hb : b < 100000) : en b o = -1 ↔ o = none := by
  cases o with
  | none => exact ⟨fun _ => rfl, fun _ => rfl⟩
  | some k => exact ⟨fun e => absurd e (nI_ne1 (by have := h k rfl; omega)), fun e => by cases e⟩
theorem en_neg {b : Nat} {o : Option Nat} (h : ∀ k, o = some k → k < 100) (hb : b < 100000) : en b o < 0 ↔ o = none := by
  cases o with
  | none => exact ⟨fun _ => rfl, fun _ => (by decide : (-1 : Int32) < 0)⟩
  | some k =>
    refine ⟨fun e => ?_, fun e => by cases e⟩
    have z0 : (0 : Int32).toInt = 0 := rfl
    have e2 : (nI (b + k)).toInt < (0 : Int32).toInt := i_lt.mp e
    rw [nI_ti (by have := h k rfl; omega)] at e2; omega
/-- the tide: a fraction -/
def tide (a : Nat → Int32) (d : Nat) (m : Int) : Option (Int × Int) := match ahd (tm a d) m (tn a d), bhd (tm a d) m (tn a d) with
  | some p, some q => some (th a d p * (if tm a d p = tm a d q then 1 else tm a d q - tm a d p) + (th a d q - th a d p) * (m - tm a d p), if tm a d p = tm a d q then 1 else tm a d q - tm a d p)
  | _, _ => none
theorem tide_none {a : Nat → Int32} {d : Nat} {m : Int} (h : ahd (tm a d) m (tn a d) = none ∨ bhd (tm a d) m (tn a d) = none) : tide a d m = none := by
  unfold tide
  rcases h with h | h
  · rw [h]
  · rw [h]; cases ahd (tm a d) m (tn a d) <;> rfl
theorem tide_b {a : Nat → Int32} (hW : WF a) {d : Nat} (hd : d < 100) {m : Int} {o w : Int} (h : tide a d m = some (o, w)) : 1 ≤ w ∧ w ≤ 1439 ∧ -100 * w ≤ o ∧ o ≤ 200 * w := by
  unfold tide at h
  cases hp : ahd (tm a d) m (tn a d) with
  | none => rw [hp] at h; cases h
  | some p =>
    cases hq : bhd (tm a d) m (tn a d) with
    | none => rw [hp, hq] at h; cases h
    | some q =>
      rw [hp, hq] at h
      obtain ⟨p1, p2⟩ := ahd_p _ _ _ _ hp
      obtain ⟨q1, q2⟩ := bhd_p _ _ _ _ hq
      have hT := (tn_nI hW hd).2
      have wp := hW.2.2.2.2.1 d p hd (by omega) p1
      have wq := hW.2.2.2.2.1 d q hd (by omega) q1
      simp only [Option.some.injEq, Prod.mk.injEq] at h
      obtain ⟨ho, hw⟩ := h
      generalize tm a d p = tp at *
      generalize tm a d q = tq at *
      generalize th a d p = hp' at *
      generalize th a d q = hq' at *
      by_cases c : tp = tq
      · rw [if_pos c] at ho hw
        have : m - tp = 0 := by omega
        rw [this] at ho
        subst hw; omega
      · rw [if_neg c] at ho hw
        subst hw
        have e : o = hp' * (tq - m) + hq' * (m - tp) := by
          rw [← ho]; simp only [Int.mul_sub, Int.sub_mul]; omega
        have b1 : -100 * (tq - m) ≤ hp' * (tq - m) := Int.mul_le_mul_of_nonneg_right (by omega) (by omega)
        have b2 : hp' * (tq - m) ≤ 200 * (tq - m) := Int.mul_le_mul_of_nonneg_right (by omega) (by omega)
        have b3 : -100 * (m - tp) ≤ hq' * (m - tp) := Int.mul_le_mul_of_nonneg_right (by omega) (by omega)
        have b4 : hq' * (m - tp) ≤ 200 * (m - tp) := Int.mul_le_mul_of_nonneg_right (by omega) (by omega)
        omega
theorem ahd_n {f : Nat → Int} {m : Int} {k : Nat} (h : ahd f m k = none) (c : f k ≤ m) : ahd f m (k + 1) = some k := by unfold ahd; rw [h]; exact if_pos c
theorem ahd_n' {f : Nat → Int} {m : Int} {k : Nat} (h : ahd f m k = none) (c : ¬ f k ≤ m) : ahd f m (k + 1) = none := by unfold ahd; rw [h]; exact if_neg c
theorem ahd_s {f : Nat → Int} {m : Int} {k p : Nat} (h : ahd f m k = some p) (c : f k ≤ m ∧ f p < f k) : ahd f m (k + 1) = some k := by unfold ahd; rw [h]; exact if_pos c
theorem ahd_s' {f : Nat → Int} {m : Int} {k p : Nat} (h : ahd f m k = some p) (c : ¬ (f k ≤ m ∧ f p < f k)) : ahd f m (k + 1) = some p := by unfold ahd; rw [h]; exact if_neg c
theorem bhd_n {f : Nat → Int} {m : Int} {k : Nat} (h : bhd f m k = none) (c : m ≤ f k) : bhd f m (k + 1) = some k := by unfold bhd; rw [h]; exact if_pos c
theorem bhd_n' {f : Nat → Int} {m : Int} {k : Nat} (h : bhd f m k = none) (c : ¬ m ≤ f k) : bhd f m (k + 1) = none := by unfold bhd; rw [h]; exact if_neg c
theorem bhd_s {f : Nat → Int} {m : Int} {k p : Nat} (h : bhd f m k = some p) (c : m ≤ f k ∧ f k < f p) : bhd f m (k + 1) = some k := by unfold bhd; rw [h]; exact if_pos c
theorem bhd_s' {f : Nat → Int} {m : Int} {k p : Nat} (h : bhd f m k = some p) (c : ¬ (m ≤ f k ∧ f k < f p)) : bhd f m (k + 1) = some p := by unfold bhd; rw [h]; exact if_neg c
def ey : Option Nat → Int32
  | none => -1
  | some k => nI k
theorem en_s (b k : Nat) : en b (some k) = nI (b + k) := rfl
theorem en_0 (b : Nat) : en b none = -1 := rfl
theorem ey_s (k : Nat) : ey (some k) = nI k := rfl
theorem ey_0 : ey none = -1 := rfl
theorem m1_neg : (-1 : Int32) < 0 := by decide
theorem nI_nn {k : Nat} (h : k < 2147483648) : ¬ nI k < 0 := by
  have z0 : (0 : Int32).toInt = 0 := rfl
  rw [i_lt, nI_ti h]; omega
section TD
variable {S : St} {a : Nat → Int32} {z d T : Nat} {m : Int32}
theorem x_seekL (hR : Rel 0 S a) (hd : d < 100) (hT : T ≤ 12) (eT : tn a d = T) : ∀ r k n, k + r = T → r < n → mX8_seek_26 z m (nI (12 * d + T)) n (en (12 * d) (ahd (tm a d) m.toInt k)) (en (12 * d) (bhd (tm a d) m.toInt k)) (nI (12 * d + k)) S = mX8_seek_101 z m (en (12 * d) (ahd (tm a d) m.toInt T)) (en (12 * d) (bhd (tm a d) m.toInt T)) S := by
  intro r
  induction r with
  | zero =>
    intro k n hk hn
    obtain ⟨n, rfl⟩ : ∃ n', n = n' + 1 := ⟨n - 1, by omega⟩
    have hkT : k = T := by omega
    subst hkT
    rw [mX8_seek_26]
    unfold mX8_seek_26b
    rw [if_pos (by rw [nI_leI (by omega) (by omega)]; omega)]
  | succ r ih =>
    intro k n hk hn
    obtain ⟨n, rfl⟩ : ∃ n', n = n' + 1 := ⟨n - 1, by omega⟩
    rw [mX8_seek_26]
    have ih' := ih (k + 1) n (by omega) (by omega)
    rw [← Nat.add_assoc] at ih'
    have rdm : ∀ i, i < T → fA S 4 (12 * d + i) = a (65 + 25 * d + 2 * i) := fun i hi => (hR.2.2.2.2.1 d i hd (by omega) (by omega)).1
    have tk : ∀ i, tm a d i = (a (65 + 25 * d + 2 * i)).toInt := fun _ => rfl
    have tkk := tk k
    -- the second half
    have h67 : ∀ A : Option Nat, ahd (tm a d) m.toInt (k + 1) = A → mX8_seek_67 z (mX8_seek_26 z m (nI (12 * d + T)) n) m (en (12 * d) A) (en (12 * d) (bhd (tm a d) m.toInt k)) (nI (12 * d + T)) (nI (12 * d + k)) (a (65 + 25 * d + 2 * k)) S = mX8_seek_101 z m (en (12 * d) (ahd (tm a d) m.toInt T)) (en (12 * d) (bhd (tm a d) m.toInt T)) S := by
      intro A hA
      rw [← ih', hA]
      unfold mX8_seek_67
      rw [nI_1]
      cases hq : bhd (tm a d) m.toInt k with
      | none =>
        rw [en_0]
        by_cases c : a (65 + 25 * d + 2 * k) < m
        · rw [if_pos c, bhd_n' hq (by rw [i_lt] at c; omega), en_0]
        · rw [if_neg c, if_pos rfl, bhd_n hq (by rw [i_lt] at c; omega), en_s]
      | some q =>
        have hq2 := bhd_p _ _ _ _ hq
        have tq := tk q
        rw [en_s]
        by_cases c : a (65 + 25 * d + 2 * k) < m
        · rw [if_pos c, bhd_s' hq (by rw [i_lt] at c; omega), en_s]
        · rw [if_neg c, if_neg (nI_ne1 (by omega)), rd_nI (by omega) (by omega), ob, rdm q (by omega)]
          rw [i_lt] at c
          by_cases c2 : a (65 + 25 * d + 2 * q) ≤ a (65 + 25 * d + 2 * k)
          · rw [if_pos c2, bhd_s' hq (by rw [i_le] at c2; omega), en_s]
          · rw [if_neg c2, bhd_s hq (by rw [i_le] at c2; omega), en_s]
    unfold mX8_seek_26b
    rw [if_neg (by rw [nI_leI (by omega) (by omega)]; omega), rd_nI (by omega) (by omega), ob, rdm k (by omega)]
    cases hp : ahd (tm a d) m.toInt k with
    | none =>
      rw [en_0]
      by_cases c : m < a (65 + 25 * d + 2 * k)
      · rw [if_pos c, ← en_0 (12 * d)]; exact h67 _ (ahd_n' hp (by rw [i_lt] at c; omega))
      · rw [if_neg c, if_pos rfl, ← en_s]; exact h67 _ (ahd_n hp (by rw [i_lt] at c; omega))
    | some p =>
      have hp2 := ahd_p _ _ _ _ hp
      have tp := tk p
      rw [en_s]
      by_cases c : m < a (65 + 25 * d + 2 * k)
      · rw [if_pos c, ← en_s]; exact h67 _ (ahd_s' hp (by rw [i_lt] at c; omega))
      · rw [if_neg c, if_neg (nI_ne1 (by omega)), rd_nI (by omega) (by omega), ob, rdm p (by omega)]
        rw [i_lt] at c
        by_cases c2 : a (65 + 25 * d + 2 * k) ≤ a (65 + 25 * d + 2 * p)
        · rw [if_pos c2, ← en_s (12 * d) p]; exact h67 _ (ahd_s' hp (by rw [i_le] at c2; omega))
        · rw [if_neg c2]
          have := h67 _ (ahd_s hp (by rw [i_le] at c2; omega))
          rw [en_s] at this
          exact this
theorem y_seekL (hd : d < 100) (hT : T ≤ 12) (e0 : fA S 0 = a) (eT : a (64 + 25 * d) = nI T) : ∀ r k n, k + r = T → r < n → mX10_tideAt_17 z m (nI (64 + 25 * d)) n (ey (ahd (tm a d) m.toInt k)) (ey (bhd (tm a d) m.toInt k)) (nI k) S = mX10_tideAt_115 z m (nI (64 + 25 * d)) (ey (ahd (tm a d) m.toInt T)) (ey (bhd (tm a d) m.toInt T)) S := by
  intro r
  induction r with
  | zero =>
    intro k n hk hn
    obtain ⟨n, rfl⟩ : ∃ n', n = n' + 1 := ⟨n - 1, by omega⟩
    have hkT : k = T := by omega
    subst hkT
    rw [mX10_tideAt_17]
    unfold mX10_tideAt_17b
    rw [rd_nI (by omega) (by omega), ob, e0, eT, if_pos (by rw [nI_leI (by omega) (by omega)]; omega)]
  | succ r ih =>
    intro k n hk hn
    obtain ⟨n, rfl⟩ : ∃ n', n = n' + 1 := ⟨n - 1, by omega⟩
    rw [mX10_tideAt_17]
    have ih' := ih (k + 1) n (by omega) (by omega)
    have tk : ∀ i, tm a d i = (a (65 + 25 * d + 2 * i)).toInt := fun _ => rfl
    have tkk := tk k
    have rdi : ∀ i, i < T → rd (fA S 0) 4564 (nI (64 + 25 * d) + 1 + 2 * nI i) = some (a (65 + 25 * d + 2 * i)) := fun i hi => by rw [rd_at (i := nI (64 + 25 * d) + 1 + 2 * nI i) _ (ixt d i 0) (by omega) (by omega), e0, Nat.add_zero]
    have h67 : ∀ A : Option Nat, ahd (tm a d) m.toInt (k + 1) = A → mX10_tideAt_76 z (mX10_tideAt_17 z m (nI (64 + 25 * d)) n) m (nI (64 + 25 * d)) (ey A) (ey (bhd (tm a d) m.toInt k)) (nI k) (a (65 + 25 * d + 2 * k)) S = mX10_tideAt_115 z m (nI (64 + 25 * d)) (ey (ahd (tm a d) m.toInt T)) (ey (bhd (tm a d) m.toInt T)) S := by
      intro A hA
      rw [← ih', hA]
      unfold mX10_tideAt_76
      rw [nI_1]
      cases hq : bhd (tm a d) m.toInt k with
      | none =>
        rw [ey_0]
        by_cases c : a (65 + 25 * d + 2 * k) < m
        · rw [if_pos c, bhd_n' hq (by rw [i_lt] at c; omega), ey_0]
        · rw [if_neg c, if_pos m1_neg, bhd_n hq (by rw [i_lt] at c; omega), ey_s]
      | some q =>
        have hq2 := bhd_p _ _ _ _ hq
        have tq := tk q
        rw [ey_s]
        by_cases c : a (65 + 25 * d + 2 * k) < m
        · rw [if_pos c, bhd_s' hq (by rw [i_lt] at c; omega), ey_s]
        · rw [if_neg c, if_neg (nI_nn (by omega)), rdi q (by omega), ob]
          rw [i_lt] at c
          by_cases c2 : a (65 + 25 * d + 2 * q) ≤ a (65 + 25 * d + 2 * k)
          · rw [if_pos c2, bhd_s' hq (by rw [i_le] at c2; omega), ey_s]
          · rw [if_neg c2, bhd_s hq (by rw [i_le] at c2; omega), ey_s]
    unfold mX10_tideAt_17b
    rw [rd_nI (by omega) (by omega), ob, show fA S 0 (64 + 25 * d) = nI T by rw [e0, eT], if_neg (by rw [nI_leI (by omega) (by omega)]; omega), rdi k (by omega), ob]
    cases hp : ahd (tm a d) m.toInt k with
    | none =>
      rw [ey_0]
      by_cases c : m < a (65 + 25 * d + 2 * k)
      · rw [if_pos c, ← ey_0]; exact h67 _ (ahd_n' hp (by rw [i_lt] at c; omega))
      · rw [if_neg c, if_pos m1_neg]
        have := h67 _ (ahd_n hp (by rw [i_lt] at c; omega))
        rw [ey_s] at this
        exact this
    | some p =>
      have hp2 := ahd_p _ _ _ _ hp
      have tp := tk p
      rw [ey_s]
      by_cases c : m < a (65 + 25 * d + 2 * k)
      · rw [if_pos c]
        have := h67 _ (ahd_s' hp (by rw [i_lt] at c; omega))
        rw [ey_s] at this
        exact this
      · rw [if_neg c, if_neg (nI_nn (by omega)), rdi p (by omega), ob]
        rw [i_lt] at c
        by_cases c2 : a (65 + 25 * d + 2 * k) ≤ a (65 + 25 * d + 2 * p)
        · rw [if_pos c2]
          have := h67 _ (ahd_s' hp (by rw [i_le] at c2; omega))
          rw [ey_s] at this
          exact this
        · rw [if_neg c2]
          have := h67 _ (ahd_s hp (by rw [i_le] at c2; omega))
          rw [ey_s] at this
          exact this
end TD
