/-! PURE: undo, image, load -/
theorem undo_eq (T : St) : (if (fI T 7) = 0 then (mX4_removeLast T).bind fun u4 => some ((1 : Int32), u4) else if (fI T 7) = 1 then (mX8_removeLast (fI T 8) T).bind fun u6 => some (1, u6) else if (fI T 7) = 2 then (wr (fA T 5) 1200 (fI T 8) (fI T 9)).bind fun g8 => some (1, (sA T 5 g8)) else if (fI T 7) = 3 then (wr (fA T 1) 20 (fI T 8) (fI T 9)).bind fun g10 => some (1, (sA T 1 g10)) else if (fI T 7) = 4 then (wr (fA T 2) 20 (fI T 8) (fI T 9)).bind fun g12 => some (1, (sA T 2 g12)) else if (fI T 7) = 5 then (mX6_removeLast T).bind fun u14 => some (1, u14) else (wr (fA T 13) 200 (fI T 8) (fI T 9)).bind fun g15 => some (1, (sA T 13 g15))) = (undoX (fI T 7) (fI T 8) (fI T 9) T).bind fun u => some (1, u) := by
  unfold undoX
  have bb : ∀ (x : Option (Nat → Int32)) (k : Nat), (x.bind fun g => some (sA T k g)).bind (fun u => some ((1 : Int32), u)) = x.bind fun g => some (1, sA T k g) := fun x k => by cases x <;> rfl
  by_cases c0 : fI T 7 = 0
  · rw [if_pos c0, if_pos c0]
  rw [if_neg c0, if_neg c0]
  by_cases c1 : fI T 7 = 1
  · rw [if_pos c1, if_pos c1]
  rw [if_neg c1, if_neg c1]
  by_cases c2 : fI T 7 = 2
  · rw [if_pos c2, if_pos c2, bb]
  rw [if_neg c2, if_neg c2]
  by_cases c3 : fI T 7 = 3
  · rw [if_pos c3, if_pos c3, bb]
  rw [if_neg c3, if_neg c3]
  by_cases c4 : fI T 7 = 4
  · rw [if_pos c4, if_pos c4, bb]
  rw [if_neg c4, if_neg c4]
  by_cases c5 : fI T 7 = 5
  · rw [if_pos c5, if_pos c5]
  rw [if_neg c5, if_neg c5, bb]
def tookX (S : St) (nx c : Nat) : St := sI (sI (sI (sI (sI S 5 (nI (slot nx 0))) 6 (nI (c - 1))) 7 (fA S 34 (slot nx 0))) 8 (fA S 35 (slot nx 0))) 9 (fA S 36 (slot nx 0))
theorem x_take {S : St} {nx c : Nat} (hn : nx < 20) (hc : 0 < c) (hc2 : c ≤ 20) (h5 : fI S 5 = nI nx) (h6 : fI S 6 = nI c) : mX0_takeLatest S = some (1, tookX S nx c) := by
  unfold mX0_takeLatest
  have e1 : (nI nx + 20 - 1 - (nI nx + 20 - 1) / 20 * 20) = nI (slot nx 0) := by
    rw [show (20 : Int32) = nI 20 from rfl, nI_add, show (1 : Int32) = nI 1 from rfl, pk_sub (by omega), show nI 20 = (20 : Int32) from rfl, rem20 _ (by omega)]
    congr 1
  have e2 : nI c - 1 = nI (c - 1) := by rw [show (1 : Int32) = nI 1 from rfl, pk_sub (by omega)]
  have hs : slot nx 0 < 20 := by unfold slot; omega
  rw [h6, if_neg (by rw [show (0 : Int32) = nI 0 from rfl, nI_eq (by omega) (by omega)]; omega)]
  simp only [h5, e1, fI_sI, fA_sI, Nat.reduceEqDiff, if_true, if_false, reduceIte, h6, e2]
  rw [rd_nI hs (by omega), ob, rd_nI hs (by omega), ob, rd_nI hs (by omega), ob]
  rfl
theorem y_undoL (z ny : Nat) (hy : ny < 20) : ∀ (n k : Nat) (S : St), k ≤ 4564 → 4564 - k < n → fI S 1 = nI ny → ∃ g : Nat → Int32, mX10_undo_35 z n (nI k) S = some (1, sA S 0 g) ∧ ∀ j, j < 4564 → g j = if k ≤ j then fA S 1 (4564 * ny + j) else fA S 0 j := by
  intro n
  induction n with
  | zero => intro k S hk hn; omega
  | succ n ih =>
    intro k S hk hn h1
    show ∃ g : Nat → Int32, mX10_undo_35b z (mX10_undo_35 z n) (nI k) S = _ ∧ _
    unfold mX10_undo_35b
    by_cases c : k = 4564
    · subst c
      refine ⟨fA S 0, ?_, fun j hj => by rw [if_neg (by omega)]⟩
      rw [if_pos (by decide), sA_self]
    · rw [if_neg (by rw [show (4564 : Int32) = nI 4564 from rfl, nI_leI (by omega) (by omega)]; omega), h1,
        rd_at (i := 4564 * nI ny + nI k) (4564 * ny + k) (by rw [show (4564 : Int32) = nI 4564 from rfl, pk_mul, nI_add]) (by omega) (by omega), ob, wr_nI (by omega) (by omega), ob, nI_1]
      obtain ⟨g, e, hg⟩ := ih (k + 1) (sA S 0 (upd (fA S 0) k (fA S 1 (4564 * ny + k)))) (by omega) (by omega) h1
      refine ⟨g, by rw [e, sA_sA], fun j hj => ?_⟩
      rw [hg j hj, fA_ne (by omega), fA_eq, up_e]
      by_cases c1 : k + 1 ≤ j
      · rw [if_pos c1, if_pos (by omega)]
      · rw [if_neg c1]
        by_cases c2 : j = k
        · rw [if_pos c2, if_pos (by omega), c2]
        · rw [if_neg c2, if_neg (by omega)]
theorem p_undo {z : Nat} (hz : 10000 ≤ z) : ok_undo z Inv := by
  intro Sx Sy hI
  have hI' := hI
  obtain ⟨hR, hW, hM, c, nx, ny, hc, hnx, hny, x6, x5, y0, y1, hh⟩ := hI'
  by_cases c0 : c = 0
  · subst c0
    refine ⟨(0, Sx), (0, Sy), ?_, ?_, rfl, hI⟩
    · unfold mX9_undo mX0_takeLatest
      rw [x6, if_pos nI_0, ob, if_pos rfl]
    · unfold mX10_undo
      rw [y0, if_pos nI_0]
  · have s0 : slot ny 0 < 20 := by unfold slot; omega
    have s0x : slot nx 0 < 20 := by unfold slot; omega
    obtain ⟨w1, u1⟩ := hh 0 (by omega)
    have hRT : Rel 0 (tookX Sx nx c) (fA Sy 0) := hR.of (by omega) (fun k hk => by rcases hk with rfl | rfl <;> rfl) (fun k _ _ => rfl)
    obtain ⟨X, eX, rX, fX⟩ := u1 (tookX Sx nx c) hRT
    have hx : mX9_undo Sx = some (1, X) := by
      unfold mX9_undo
      rw [x_take hnx (by omega) hc x5 x6, ob, if_neg one_ne]
      rw [undo_eq (tookX Sx nx c)]
      show (undoX (fA Sx 34 (slot nx 0)) (fA Sx 35 (slot nx 0)) (fA Sx 36 (slot nx 0)) (tookX Sx nx c)).bind _ = _
      rw [eX, ob]
    have e1 : (nI ny + 19 - (nI ny + 19) / 20 * 20) = nI (slot ny 0) := by
      rw [show (19 : Int32) = nI 19 from rfl, nI_add, rem20 _ (by omega)]
      congr 1
    have e2 : nI c - 1 = nI (c - 1) := by rw [show (1 : Int32) = nI 1 from rfl, pk_sub (by omega)]
    obtain ⟨g, ey, hg⟩ := y_undoL z (slot ny 0) s0 z 0 (sI (sI Sy 1 (nI (slot ny 0))) 0 (nI (c - 1))) (by omega) (by omega) rfl
    have hy : mX10_undo z Sy = some (1, sA (sI (sI Sy 1 (nI (slot ny 0))) 0 (nI (c - 1))) 0 g) := by
      unfold mX10_undo
      rw [y0, if_neg (by rw [show (0 : Int32) = nI 0 from rfl, nI_eq (by omega) (by omega)]; omega)]
      simp only [y1, e1, fI_sI, Nat.reduceEqDiff, if_true, if_false, reduceIte, y0, e2]
      exact ey
    refine ⟨_, _, hx, hy, rfl, ?_⟩
    have hp : ∀ k, k < 4564 → g k = snap Sy ny 1 k := fun k hk => by rw [hg k hk, if_pos (by omega)]; rfl
    show Inv X (sA (sI (sI Sy 1 (nI (slot ny 0))) 0 (nI (c - 1))) 0 g)
    refine ⟨by rw [fA_eq]; exact rX.congr hp, by rw [fA_eq]; exact w1.congr hp, ?_, c - 1, slot nx 0, slot ny 0, by omega, s0x, s0, ?_, ?_, rfl, rfl, fun i hi => ?_⟩
    · exact hM.of (fX.1 0 (by omega) (by omega)) (fX.1 3 (by omega) (by omega)) (fX.1 4 (by omega) (by omega)) (fun k h1 h2 => (fX.2 k (by omega)).trans rfl) rfl rfl
    · rw [fX.1 6 (by omega) (by omega)]; rfl
    · rw [fX.1 5 (by omega) (by omega)]; rfl
    · obtain ⟨w2, u2⟩ := hh (i + 1) (by omega)
      have sl : ∀ n, n < 20 → slot (slot n 0) i = slot n (i + 1) := fun n hn => by unfold slot; omega
      have q1 : snap (sA (sI (sI Sy 1 (nI (slot ny 0))) 0 (nI (c - 1))) 0 g) (slot ny 0) (i + 1) = snap Sy ny (i + 2) := by
        show (fun k => fA Sy 1 (4564 * slot (slot ny 0) i + k)) = fun k => fA Sy 1 (4564 * slot ny (i + 1) + k)
        rw [sl ny hny]
      rw [q1, fX.2 34 (by omega), fX.2 35 (by omega), fX.2 36 (by omega), sl nx hnx]
      refine ⟨w2, u2.congr ?_ (fun _ _ => rfl)⟩
      intro k hk
      cases i with
      | zero => exact hp k hk
      | succ i =>
        show fA Sy 1 (4564 * slot (slot ny 0) i + k) = fA Sy 1 (4564 * slot ny (i + 1) + k)
        congr 2
        unfold slot
        omega
-- image and load
theorem cp_all (f g : Nat → Int32) {n : Nat} (hn : n < 2147483648) {c : Int32} (e : c = nI n) : cp f n 0 g n 0 c = some (va_cpy f g 0 0 n) := by
  subst e
  unfold cp
  have z0 : (0 : Int32).toInt = 0 := rfl
  have t : (nI n).toInt = n := nI_ti hn
  rw [if_pos (by omega), nI_clamp hn]
  rfl
theorem cp20 (f g : Nat → Int32) : cp f 20 0 g 20 0 20 = some (va_cpy f g 0 0 20) := cp_all f g (by omega) rfl
theorem cp100 (f g : Nat → Int32) : cp f 100 0 g 100 0 100 = some (va_cpy f g 0 0 100) := cp_all f g (by omega) rfl
theorem cp200 (f g : Nat → Int32) : cp f 200 0 g 200 0 200 = some (va_cpy f g 0 0 200) := cp_all f g (by omega) rfl
theorem cp1200 (f g : Nat → Int32) : cp f 1200 0 g 1200 0 1200 = some (va_cpy f g 0 0 1200) := cp_all f g (by omega) rfl
theorem cpy_in (f g : Nat → Int32) {n k : Nat} (h : k < n) : va_cpy f g 0 0 n k = f k := by
  unfold va_cpy
  rw [if_pos (by omega)]
  congr 1
  omega
theorem x_copyL (S : St) : mX4_copyFrom_X23 S = some (sA (sA (sA (sI S 3 (fI S 1)) 17 (va_cpy (fA S 0) (fA S 17) 0 0 20)) 18 (va_cpy (fA S 1) (fA S 18) 0 0 20)) 19 (va_cpy (fA S 2) (fA S 19) 0 0 20)) := by
  unfold mX4_copyFrom_X23
  rw [cp20, ob, cp20, ob, cp20, ob]
  rfl
theorem x_copyT (S : St) : mX8_copyFrom_X27 S = some (sA (sA (sA S 20 (va_cpy (fA S 3) (fA S 20) 0 0 100)) 21 (va_cpy (fA S 4) (fA S 21) 0 0 1200)) 22 (va_cpy (fA S 5) (fA S 22) 0 0 1200)) := by
  unfold mX8_copyFrom_X27
  rw [cp100, ob, cp1200, ob, cp1200, ob]
  rfl
theorem x_copyL2 (S : St) : mX4_copyFrom_X2 S = some (sA (sA (sA (sI S 1 (fI S 3)) 0 (va_cpy (fA S 17) (fA S 0) 0 0 20)) 1 (va_cpy (fA S 18) (fA S 1) 0 0 20)) 2 (va_cpy (fA S 19) (fA S 2) 0 0 20)) := by
  unfold mX4_copyFrom_X2
  rw [cp20, ob, cp20, ob, cp20, ob]
  rfl
theorem x_copyT2 (S : St) : mX8_copyFrom_X6 S = some (sA (sA (sA S 3 (va_cpy (fA S 20) (fA S 3) 0 0 100)) 4 (va_cpy (fA S 21) (fA S 4) 0 0 1200)) 5 (va_cpy (fA S 22) (fA S 5) 0 0 1200)) := by
  unfold mX8_copyFrom_X6
  rw [cp100, ob, cp1200, ob, cp1200, ob]
  rfl
set_option maxRecDepth 4000 in
theorem x_copyS (S : St) : mX6_copyFrom_X31 S = some (sA (sA (sA (sA (sA (sA (sA (sA (sA (sA (sI S 4 (fI S 2)) 23 (va_cpy (fA S 6) (fA S 23) 0 0 200)) 24 (va_cpy (fA S 7) (fA S 24) 0 0 200)) 25 (va_cpy (fA S 8) (fA S 25) 0 0 200)) 26 (va_cpy (fA S 9) (fA S 26) 0 0 200)) 27 (va_cpy (fA S 10) (fA S 27) 0 0 200)) 28 (va_cpy (fA S 11) (fA S 28) 0 0 200)) 29 (va_cpy (fA S 12) (fA S 29) 0 0 200)) 30 (va_cpy (fA S 13) (fA S 30) 0 0 200)) 31 (va_cpy (fA S 14) (fA S 31) 0 0 200)) 32 (va_cpy (fA S 15) (fA S 32) 0 0 200)) := by
  unfold mX6_copyFrom_X31
  rw [cp200, ob, cp200, ob, cp200, ob, cp200, ob, cp200, ob, cp200, ob, cp200, ob, cp200, ob, cp200, ob, cp200, ob]
  rfl
set_option maxRecDepth 4000 in
theorem x_copyS2 (S : St) : mX6_copyFrom_X10 S = some (sA (sA (sA (sA (sA (sA (sA (sA (sA (sA (sI S 2 (fI S 4)) 6 (va_cpy (fA S 23) (fA S 6) 0 0 200)) 7 (va_cpy (fA S 24) (fA S 7) 0 0 200)) 8 (va_cpy (fA S 25) (fA S 8) 0 0 200)) 9 (va_cpy (fA S 26) (fA S 9) 0 0 200)) 10 (va_cpy (fA S 27) (fA S 10) 0 0 200)) 11 (va_cpy (fA S 28) (fA S 11) 0 0 200)) 12 (va_cpy (fA S 29) (fA S 12) 0 0 200)) 13 (va_cpy (fA S 30) (fA S 13) 0 0 200)) 14 (va_cpy (fA S 31) (fA S 14) 0 0 200)) 15 (va_cpy (fA S 32) (fA S 15) 0 0 200)) := by
  unfold mX6_copyFrom_X10
  rw [cp200, ob, cp200, ob, cp200, ob, cp200, ob, cp200, ob, cp200, ob, cp200, ob, cp200, ob, cp200, ob, cp200, ob]
  rfl

/-- the image is made -/
theorem y_imgL (z : Nat) : ∀ (n k : Nat) (S : St), k ≤ 4564 → 4564 - k < n → ∃ g : Nat → Int32, mX10_image_2 z n (nI k) S = some (sI (sA S 2 g) 2 1) ∧ ∀ j, j < 4564 → g j = if k ≤ j then fA S 0 j else fA S 2 j := by
  intro n
  induction n with
  | zero => intro k S hk hn; omega
  | succ n ih =>
    intro k S hk hn
    show ∃ g : Nat → Int32, mX10_image_2b z (mX10_image_2 z n) (nI k) S = _ ∧ _
    unfold mX10_image_2b
    by_cases c : k = 4564
    · subst c
      refine ⟨fA S 2, ?_, fun j hj => by rw [if_neg (by omega)]⟩
      rw [if_pos (by decide), sA_self]
      rfl
    · rw [if_neg (by rw [show (4564 : Int32) = nI 4564 from rfl, nI_leI (by omega) (by omega)]; omega), rd_nI (by omega) (by omega), ob, wr_nI (by omega) (by omega), ob, nI_1]
      obtain ⟨g, e, hg⟩ := ih (k + 1) (sA S 2 (upd (fA S 2) k (fA S 0 k))) (by omega) (by omega)
      refine ⟨g, by rw [e, sA_sA], fun j hj => ?_⟩
      rw [hg j hj, fA_ne (by omega), fA_eq, up_e]
      by_cases c1 : k + 1 ≤ j
      · rw [if_pos c1, if_pos (by omega)]
      · rw [if_neg c1]
        by_cases c2 : j = k
        · rw [if_pos c2, if_pos (by omega), c2]
        · rw [if_neg c2, if_neg (by omega)]
theorem y_loadL (z : Nat) : ∀ (n k : Nat) (S : St), k ≤ 4564 → 4564 - k < n → ∃ g : Nat → Int32, mX10_load_11 z n (nI k) S = some (1, sI (sA S 0 g) 0 0) ∧ ∀ j, j < 4564 → g j = if k ≤ j then fA S 2 j else fA S 0 j := by
  intro n
  induction n with
  | zero => intro k S hk hn; omega
  | succ n ih =>
    intro k S hk hn
    show ∃ g : Nat → Int32, mX10_load_11b z (mX10_load_11 z n) (nI k) S = _ ∧ _
    unfold mX10_load_11b
    by_cases c : k = 4564
    · subst c
      refine ⟨fA S 0, ?_, fun j hj => by rw [if_neg (by omega)]⟩
      rw [if_pos (by decide), sA_self]
      rfl
    · rw [if_neg (by rw [show (4564 : Int32) = nI 4564 from rfl, nI_leI (by omega) (by omega)]; omega), rd_nI (by omega) (by omega), ob, wr_nI (by omega) (by omega), ob, nI_1]
      obtain ⟨g, e, hg⟩ := ih (k + 1) (sA S 0 (upd (fA S 0) k (fA S 2 k))) (by omega) (by omega)
      refine ⟨g, by rw [e, sA_sA], fun j hj => ?_⟩
      rw [hg j hj, fA_ne (by omega), fA_eq, up_e]
      by_cases c1 : k + 1 ≤ j
      · rw [if_pos c1, if_pos (by omega)]
      · rw [if_neg c1]
        by_cases c2 : j = k
        · rw [if_pos c2, if_pos (by omega), c2]
        · rw [if_neg c2, if_neg (by omega)]
/-- one survey copied to the other place -/
def Cpd (o o' : Nat) (S S' : St) : Prop := (∀ j, j < 3 → ∀ i, i < 20 → fA S' (17 * o' + j) i = fA S (17 * o + j) i) ∧ (∀ i, i < 100 → fA S' (17 * o' + 3) i = fA S (17 * o + 3) i) ∧ (∀ j, j < 2 → ∀ i, i < 1200 → fA S' (17 * o' + 4 + j) i = fA S (17 * o + 4 + j) i) ∧ (∀ j, j < 10 → ∀ i, i < 200 → fA S' (17 * o' + 6 + j) i = fA S (17 * o + 6 + j) i) ∧ fI S' (1 + 2 * o') = fI S (1 + 2 * o) ∧ fI S' (2 + 2 * o') = fI S (2 + 2 * o)
theorem Rel.cpd {o o' : Nat} {S S' : St} {a : Nat → Int32} (h : Rel o S a) (g : Cpd o o' S S') : Rel o' S' a := by
  obtain ⟨h1, h2, h3, h4, h5, h6⟩ := h
  obtain ⟨g1, g2, g3, g4, g5, g6⟩ := g
  refine ⟨g5.trans h1, g6.trans h2, fun l j hl hl2 hj => (g1 j hj l hl).trans (h3 l j hl hl2 hj), fun d hd => (g2 d hd).trans (h4 d hd), fun d k hd hk hk2 => ?_, fun n j hn hn2 hj => (g4 j hj n hn).trans (h6 n j hn hn2 hj)⟩
  obtain ⟨a1, a2⟩ := h5 d k hd hk hk2
  exact ⟨(g3 0 (by omega) (12 * d + k) (by omega)).trans a1, (g3 1 (by omega) (12 * d + k) (by omega)).trans a2⟩
theorem x_image (S : St) : ∃ S', mX9_image S = some S' ∧ Cpd 0 1 S S' ∧ fI S' 0 = 1 ∧ (∀ k, k ≠ 0 → k ≠ 3 → k ≠ 4 → fI S' k = fI S k) ∧ ∀ k, (k < 17 ∨ 33 ≤ k) → fA S' k = fA S k := by
  refine ⟨_, by unfold mX9_image mX7_copyFrom_X22; rw [x_copyL, ob, x_copyT, ob, x_copyS, ob, ob], ?_, rfl, fun k h0 h3 h4 => ?_, fun k hk => ?_⟩
  · refine ⟨fun j hj i hi => ?_, fun i hi => ?_, fun j hj i hi => ?_, fun j hj i hi => ?_, rfl, rfl⟩
    · rcases (show j = 0 ∨ j = 1 ∨ j = 2 by omega) with rfl | rfl | rfl <;> exact cpy_in _ _ hi
    · exact cpy_in _ _ hi
    · rcases (show j = 0 ∨ j = 1 by omega) with rfl | rfl <;> exact cpy_in _ _ hi
    · rcases (show j = 0 ∨ j = 1 ∨ j = 2 ∨ j = 3 ∨ j = 4 ∨ j = 5 ∨ j = 6 ∨ j = 7 ∨ j = 8 ∨ j = 9 by omega) with rfl | rfl | rfl | rfl | rfl | rfl | rfl | rfl | rfl | rfl <;> exact cpy_in _ _ hi
  · simp only [fI_sI, fI_sA, if_neg h0, if_neg h3, if_neg h4]
  · simp only [fA_sI]
    rw [fA_ne (by omega), fA_ne (by omega), fA_ne (by omega), fA_ne (by omega), fA_ne (by omega), fA_ne (by omega), fA_ne (by omega), fA_ne (by omega), fA_ne (by omega), fA_ne (by omega)]
    simp only [fA_sI]
    rw [fA_ne (by omega), fA_ne (by omega), fA_ne (by omega), fA_ne (by omega), fA_ne (by omega), fA_ne (by omega), fA_sI]
theorem x_load (S : St) : ∃ S', (mX7_copyFrom_X1 S) = some S' ∧ Cpd 1 0 S S' ∧ (∀ k, k ≠ 1 → k ≠ 2 → fI S' k = fI S k) ∧ ∀ k, 16 ≤ k → fA S' k = fA S k := by
  refine ⟨_, by unfold mX7_copyFrom_X1; rw [x_copyL2, ob, x_copyT2, ob, x_copyS2, ob], ?_, fun k h3 h4 => ?_, fun k hk => ?_⟩
  · refine ⟨fun j hj i hi => ?_, fun i hi => ?_, fun j hj i hi => ?_, fun j hj i hi => ?_, rfl, rfl⟩
    · rcases (show j = 0 ∨ j = 1 ∨ j = 2 by omega) with rfl | rfl | rfl <;> exact cpy_in _ _ hi
    · exact cpy_in _ _ hi
    · rcases (show j = 0 ∨ j = 1 by omega) with rfl | rfl <;> exact cpy_in _ _ hi
    · rcases (show j = 0 ∨ j = 1 ∨ j = 2 ∨ j = 3 ∨ j = 4 ∨ j = 5 ∨ j = 6 ∨ j = 7 ∨ j = 8 ∨ j = 9 by omega) with rfl | rfl | rfl | rfl | rfl | rfl | rfl | rfl | rfl | rfl <;> exact cpy_in _ _ hi
  · simp only [fI_sI, fI_sA, if_neg h3, if_neg h4]
  · rw [fA_ne (by omega), fA_ne (by omega), fA_ne (by omega), fA_ne (by omega), fA_ne (by omega), fA_ne (by omega), fA_ne (by omega), fA_ne (by omega), fA_ne (by omega), fA_ne (by omega), fA_sI, fA_ne (by omega), fA_ne (by omega), fA_ne (by omega), fA_ne (by omega), fA_ne (by omega), fA_ne (by omega), fA_sI]
theorem p_image {z : Nat} (hz : 10000 ≤ z) : ok_image z Inv := by
  intro Sx Sy hI
  obtain ⟨hR, hW, hM, c, nx, ny, hc, hnx, hny, x6, x5, y0, y1, hh⟩ := hI
  obtain ⟨X, eX, cX, i0, iX, aX⟩ := x_image Sx
  obtain ⟨g, ey, hg⟩ := y_imgL z z 0 Sy (by omega) (by omega)
  have hp : ∀ k, k < 4564 → g k = fA Sy 0 k := fun k hk => by rw [hg k hk, if_pos (by omega)]
  refine ⟨X, _, eX, by unfold mX10_image; exact ey, ?_⟩
  refine ⟨hR.of (by omega) (fun k hk => iX k (by omega) (by omega) (by omega)) (fun k h1 h2 => aX k (by omega)), hW, Or.inr ⟨i0, rfl, ?_, hW.congr hp⟩, c, nx, ny, hc, hnx, hny, (iX 6 (by omega) (by omega) (by omega)).trans x6, (iX 5 (by omega) (by omega) (by omega)).trans x5, y0, y1, fun i hi => ?_⟩
  · exact (hR.cpd cX).congr hp
  · have se : ∀ i, snap (sI (sA Sy 2 g) 2 1) ny i = snap Sy ny i := fun i => snap_eq rfl rfl i
    rw [se, se, aX 34 (by omega), aX 35 (by omega), aX 36 (by omega)]
    exact hh i hi
theorem p_load {z : Nat} (hz : 10000 ≤ z) : ok_load z Inv := by
  intro Sx Sy hI
  have hI' := hI
  obtain ⟨hR, hW, hM, c, nx, ny, hc, hnx, hny, x6, x5, y0, y1, hh⟩ := hI'
  unfold mX9_load mX10_load
  rcases hM with ⟨m1, m2⟩ | ⟨m1, m2, m3, m4⟩
  · rw [m1, m2, if_pos rfl, if_pos rfl]
    exact ⟨_, _, rfl, rfl, rfl, hI⟩
  · rw [m1, m2, if_neg one_ne, if_neg one_ne]
    obtain ⟨X, eX, cX, iX, aX⟩ := x_load Sx
    obtain ⟨g, ey, hg⟩ := y_loadL z z 0 Sy (by omega) (by omega)
    have hp : ∀ k, k < 4564 → g k = fA Sy 2 k := fun k hk => by rw [hg k hk, if_pos (by omega)]
    rw [eX, ob]
    unfold mX0_forgetAll
    rw [ob]
    refine ⟨_, _, rfl, ey, rfl, ?_⟩
    show Inv (sI X 6 0) (sI (sA Sy 0 g) 0 0)
    refine ⟨?_, m4.congr hp, Or.inr ⟨(iX 0 (by omega) (by omega)).trans m1, m2, ?_, m4⟩, 0, nx, ny, by omega, hnx, hny, rfl, (iX 5 (by omega) (by omega)).trans x5, rfl, y1, fun i hi => absurd hi (Nat.not_lt_zero _)⟩
    · refine Rel.of (S := X) ((m3.cpd cX).congr hp) (by omega) (fun k hk => ?_) (fun k _ _ => rfl)
      rw [fI_ne (by omega)]
    · refine m3.of (by omega) (fun k hk => ?_) (fun k h1 h2 => aX k (by omega))
      rw [fI_ne (by omega)]
      exact iX k (by omega) (by omega)
