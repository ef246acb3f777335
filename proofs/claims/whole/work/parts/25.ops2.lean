/-! PURE: speed, shift, gone -/
theorem x_has {S : St} {l : Nat} (h : fI S 1 = nI l) (hl : l ≤ 20) (v : Int32) : mX4_has S v = some (if 0 ≤ v.toInt ∧ v.toInt < l then 1 else 0) := by
  unfold mX4_has
  have z0 : (0 : Int32).toInt = 0 := rfl
  have e : (nI l).toInt = l := nI_ti (by omega)
  rw [h]
  by_cases c1 : v < 0
  · rw [if_pos c1, if_neg (by rw [i_lt] at c1; omega)]
  · rw [if_neg c1]
    rw [i_lt] at c1
    by_cases c2 : nI l ≤ v
    · rw [if_pos c2, if_neg (by rw [i_le] at c2; omega)]
    · rw [if_neg c2, if_pos (by rw [i_le] at c2; omega)]
theorem x_hasS {S : St} {n : Nat} (h : fI S 2 = nI n) (hn : n ≤ 200) (v : Int32) : mX6_has S v = some (if 0 ≤ v.toInt ∧ v.toInt < n then 1 else 0) := by
  unfold mX6_has
  have z0 : (0 : Int32).toInt = 0 := rfl
  have e : (nI n).toInt = n := nI_ti (by omega)
  rw [h]
  by_cases c1 : v < 0
  · rw [if_pos c1, if_neg (by rw [i_lt] at c1; omega)]
  · rw [if_neg c1]
    rw [i_lt] at c1
    by_cases c2 : nI n ≤ v
    · rw [if_pos c2, if_neg (by rw [i_le] at c2; omega)]
    · rw [if_neg c2, if_pos (by rw [i_le] at c2; omega)]
theorem y_inN {S : St} {n : Nat} (hn : n ≤ 100000) (v : Int32) : mX10_in S v 0 (nI n - 1) = some (if 0 ≤ v.toInt ∧ v.toInt < n then 1 else 0) := by
  rw [w_in]
  have z0 : (0 : Int32).toInt = 0 := rfl
  have z1 : (1 : Int32).toInt = 1 := rfl
  have e : (nI n).toInt = n := nI_ti (by omega)
  have e2 : (nI n - 1).toInt = (n : Int) - 1 := by rw [ti_sub (by omega) (by omega)]; omega
  congr 1
  by_cases c : 0 ≤ v.toInt ∧ v.toInt < n
  · rw [if_pos c, if_neg (by rw [i_lt, i_lt]; omega)]
  · rw [if_neg c, if_pos (by rw [i_lt, i_lt]; omega)]
theorem zb_ite2 {α : Type} {c : Prop} [Decidable c] (x : α) : zb (if c then (1 : Int32) else 0) x = some x := by
  by_cases h : c <;> simp [zb, h]
theorem y_isLine {S : St} {l : Nat} (h : fA S 0 0 = nI l) (hl : l ≤ 20) (v : Int32) : mX10_isLine S v = some (if 0 ≤ v.toInt ∧ v.toInt < l then 1 else 0) := by
  unfold mX10_isLine
  rw [rd_0 (by omega) (by omega), ob, h, y_inN (by omega), ob, zb_ite2]
theorem y_isSnd {S : St} {n : Nat} (h : fA S 0 1 = nI n) (hn : n ≤ 200) (v : Int32) : mX10_isSounding S v = some (if 0 ≤ v.toInt ∧ v.toInt < n then 1 else 0) := by
  unfold mX10_isSounding
  rw [rd_1 (by omega) (by omega), ob, h, y_inN (by omega), ob, zb_ite2]
theorem p_speed {z : Nat} (hz : 10000 ≤ z) : ok_speed z Inv := by
  intro Sx Sy v1 v2 hI
  have hI' := hI
  obtain ⟨hR, hW, hM, c, nx, ny, hc, hnx, hny, x6, x5, y0, y1, hh⟩ := hI'
  obtain ⟨e0, hl⟩ := nl_nI hW
  generalize hle : nl (fA Sy 0) = l at e0 hl
  have x1 : fI Sx 1 = nI l := hR.1.trans e0
  unfold mX9_speed mX10_speed
  rw [x_has x1 hl, ob, y_isLine e0 hl, ob]
  by_cases c1 : 0 ≤ v1.toInt ∧ v1.toInt < l
  · rw [if_pos c1, if_neg one_ne, if_neg one_ne, w_isSpeed, ob, w_in, ob]
    by_cases c2 : v2 < 1400 ∨ 1600 < v2
    · rw [in_f c2, if_pos rfl, if_pos rfl]
      exact ⟨_, _, rfl, rfl, rfl, hI⟩
    have d2 := nir c2
    obtain ⟨k, rfl, hk⟩ := i_ex c1.1
    have hk2 : k < l := by omega
    rw [in_t c2, if_neg one_ne, if_neg one_ne, rd_nI (by omega) (by omega), ob, w_push 3 (nI k) (fA Sx 1 k) hnx hc x5 x6, ob, wr_nI (by omega) (by omega), ob]
    obtain ⟨g, hy, hg⟩ := w_acts hz hny hc y1 y0
    rw [hy, ob, wr_at (i := 4 + 3 * nI k + 1) (4 + 3 * k + 1) (ixl k 1) (by omega) (by omega), ob]
    refine ⟨_, _, rfl, rfl, rfl, ?_⟩
    have q := hR.2.2.1 k 1 (by omega) (by omega) (by omega)
    have q' : fA Sx 1 k = fA Sy 0 (4 + 3 * k + 1) := q
    refine inv_push hI hc hnx hny hh hg (FrU.A _ (by omega) _) rfl (rel_line (Rel.push hR) (l := k) (j := 1) (by omega) (by omega) v2) (wf_line hW (by omega) (by omega) v2 (fun _ => ⟨fun q => absurd q (by omega), fun _ => ?_, fun q => absurd q (by omega)⟩)) ?_
    · have z2 : (1400 : Int32).toInt = 1400 := rfl
      have z3 : (1600 : Int32).toInt = 1600 := rfl
      omega
    · rw [q']
      refine und_speed (by omega) (fun i hi => ?_)
      rw [show fA (pushY g ny c Sy) 0 = fA Sy 0 from rfl, up_e, up_e]
      by_cases w : i = 4 + 3 * k + 1
      · rw [if_pos w, w]
      · rw [if_neg w, if_neg w]
  · rw [if_neg c1, if_pos rfl, if_pos rfl]
    exact ⟨_, _, rfl, rfl, rfl, hI⟩
theorem p_shift {z : Nat} (hz : 10000 ≤ z) : ok_shift z Inv := by
  intro Sx Sy v1 v2 hI
  have hI' := hI
  obtain ⟨hR, hW, hM, c, nx, ny, hc, hnx, hny, x6, x5, y0, y1, hh⟩ := hI'
  obtain ⟨e0, hl⟩ := nl_nI hW
  generalize hle : nl (fA Sy 0) = l at e0 hl
  have x1 : fI Sx 1 = nI l := hR.1.trans e0
  unfold mX9_shift mX10_shift
  rw [x_has x1 hl, ob, y_isLine e0 hl, ob]
  by_cases c1 : 0 ≤ v1.toInt ∧ v1.toInt < l
  · rw [if_pos c1, if_neg one_ne, if_neg one_ne, w_within, ob, w_in, ob]
    by_cases c2 : v2 < (-50) ∨ 50 < v2
    · rw [in_f c2, if_pos rfl, if_pos rfl]
      exact ⟨_, _, rfl, rfl, rfl, hI⟩
    have d2 := nir c2
    obtain ⟨k, rfl, hk⟩ := i_ex c1.1
    have hk2 : k < l := by omega
    rw [in_t c2, if_neg one_ne, if_neg one_ne, rd_nI (by omega) (by omega), ob, w_push 4 (nI k) (fA Sx 2 k) hnx hc x5 x6, ob, wr_nI (by omega) (by omega), ob]
    obtain ⟨g, hy, hg⟩ := w_acts hz hny hc y1 y0
    rw [hy, ob, wr_at (i := 4 + 3 * nI k + 2) (4 + 3 * k + 2) (ixl k 2) (by omega) (by omega), ob]
    refine ⟨_, _, rfl, rfl, rfl, ?_⟩
    have q := hR.2.2.1 k 2 (by omega) (by omega) (by omega)
    have q' : fA Sx 2 k = fA Sy 0 (4 + 3 * k + 2) := q
    refine inv_push hI hc hnx hny hh hg (FrU.A _ (by omega) _) rfl (rel_line (Rel.push hR) (l := k) (j := 2) (by omega) (by omega) v2) (wf_line hW (by omega) (by omega) v2 (fun _ => ⟨fun q => absurd q (by omega), fun q => absurd q (by omega), fun _ => ?_⟩)) ?_
    · have z2 : (-50 : Int32).toInt = -50 := rfl
      have z3 : (50 : Int32).toInt = 50 := rfl
      omega
    · rw [q']
      refine und_shift (by omega) (fun i hi => ?_)
      rw [show fA (pushY g ny c Sy) 0 = fA Sy 0 from rfl, up_e, up_e]
      by_cases w : i = 4 + 3 * k + 2
      · rw [if_pos w, w]
      · rw [if_neg w, if_neg w]
  · rw [if_neg c1, if_pos rfl, if_pos rfl]
    exact ⟨_, _, rfl, rfl, rfl, hI⟩
theorem ixs (n j : Nat) : (2564 : Int32) + 10 * nI n + nI j = nI (2564 + 10 * n + j) := by rw [show (2564 : Int32) + 10 * nI n = nI (2564 + 10 * n) from nI_lin 2564 10 n, nI_add]
theorem y_of {S : St} {n j : Nat} (hn : n < 200) (hj : j < 10) : mX10_of S (nI n) (nI j) = some (fA S 0 (2564 + 10 * n + j)) := by
  unfold mX10_of
  rw [rd_at (i := 2564 + 10 * nI n + nI j) (2564 + 10 * n + j) (ixs n j) (by omega) (by omega), ob]
theorem p_gone {z : Nat} (hz : 10000 ≤ z) : ok_gone z Inv := by
  intro Sx Sy v1 v2 hI
  have hI' := hI
  obtain ⟨hR, hW, hM, c, nx, ny, hc, hnx, hny, x6, x5, y0, y1, hh⟩ := hI'
  obtain ⟨e0, hl⟩ := ns_nI hW
  generalize hle : ns (fA Sy 0) = n at e0 hl
  have x1 : fI Sx 2 = nI n := hR.2.1.trans e0
  unfold mX9_gone mX10_gone
  rw [x_hasS x1 hl, ob, y_isSnd e0 hl, ob]
  by_cases c1 : 0 ≤ v1.toInt ∧ v1.toInt < n
  · rw [if_pos c1, if_neg one_ne, if_neg one_ne, w_within, ob, w_in, ob]
    by_cases c2 : v2 < 0 ∨ 100 < v2
    · rw [in_f c2, if_pos rfl, if_pos rfl]
      exact ⟨_, _, rfl, rfl, rfl, hI⟩
    have d2 := nir c2
    obtain ⟨k, rfl, hk⟩ := i_ex c1.1
    have hk2 : k < n := by omega
    have q := hR.2.2.2.2.2 k 7 (by omega) (by omega) (by omega)
    have q' : fA Sx 13 k = fA Sy 0 (2564 + 10 * k + 7) := q
    rw [in_t c2, if_neg one_ne, if_neg one_ne, rd_nI (by omega) (by omega), ob, show (7 : Int32) = nI 7 from rfl, y_of (by omega) (by omega), ob, ob, ← q']
    by_cases c3 : fA Sx 13 k = v2
    · rw [if_pos c3, if_pos c3]
      exact ⟨_, _, rfl, rfl, rfl, hI⟩
    rw [if_neg c3, if_neg c3, w_push 6 (nI k) (fA Sx 13 k) hnx hc x5 x6, ob, wr_nI (by omega) (by omega), ob]
    obtain ⟨g, hy, hg⟩ := w_acts hz hny hc y1 y0
    rw [hy, ob, wr_at (i := 2564 + 10 * nI k + nI 7) (2564 + 10 * k + 7) (ixs k 7) (by omega) (by omega), ob]
    refine ⟨_, _, rfl, rfl, rfl, ?_⟩
    refine inv_push hI hc hnx hny hh hg (FrU.A _ (by omega) _) rfl (rel_snd (Rel.push hR) (n := k) (j := 7) (by omega) (by omega) v2) (wf_gone hW (by omega) v2 ?_) ?_
    · have z2 : (0 : Int32).toInt = 0 := rfl
      have z3 : (100 : Int32).toInt = 100 := rfl
      omega
    · rw [q']
      refine und_gone (by omega) (fun i hi => ?_)
      rw [show fA (pushY g ny c Sy) 0 = fA Sy 0 from rfl, up_e, up_e]
      by_cases w : i = 2564 + 10 * k + 7
      · rw [if_pos w, w]
      · rw [if_neg w, if_neg w]
  · rw [if_neg c1, if_pos rfl, if_pos rfl]
    exact ⟨_, _, rfl, rfl, rfl, hI⟩
