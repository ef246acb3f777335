/-! PURE: the TIDE and CORRECTED depths on both sides -/
theorem x_seek {S : St} {a : Nat → Int32} {z d : Nat} (hz : 10000 ≤ z) (hR : Rel 0 S a) (hW : WF a) (hd : d < 100) (m : Int32) :
    (tide a d m.toInt = none → mX8_seek z (nI d) m S = some (0, S)) ∧ ∀ o w, tide a d m.toInt = some (o, w) → ∃ L0 L1 : Int64, mX8_seek z (nI d) m S = some (1, sL (sL S 1 L1) 0 L0) ∧ L0.toInt = o ∧ L1.toInt = w := by
  obtain ⟨eT, hT⟩ := tn_nI hW hd
  have h0 : mX8_seek z (nI d) m S = mX8_seek_101 z m (en (12 * d) (ahd (tm a d) m.toInt (tn a d))) (en (12 * d) (bhd (tm a d) m.toInt (tn a d))) S := by
    unfold mX8_seek
    rw [rd_nI hd (by omega), ob, show fA S 3 d = nI (tn a d) from (hR.2.2.2.1 d hd).trans eT, ixr, show nI d * 12 = nI (12 * d + 0) from by rw [← ixr, nI_0]; simp]
    exact x_seekL hR hd hT rfl (tn a d) 0 z (by omega) (by omega)
  rw [h0]
  cases hp : ahd (tm a d) m.toInt (tn a d) with
  | none =>
    refine ⟨fun _ => by unfold mX8_seek_101; rw [en_0, if_pos rfl], fun o w h => ?_⟩
    rw [tide_none (Or.inl hp)] at h; cases h
  | some p =>
    have hp2 := ahd_p _ _ _ _ hp
    cases hq : bhd (tm a d) m.toInt (tn a d) with
    | none =>
      refine ⟨fun _ => by unfold mX8_seek_101; rw [en_s, en_0, if_neg (nI_ne1 (by omega)), if_pos rfl], fun o w h => ?_⟩
      rw [tide_none (Or.inr hq)] at h; cases h
    | some q =>
      have hq2 := bhd_p _ _ _ _ hq
      have et : tide a d m.toInt = some (th a d p * (if tm a d p = tm a d q then 1 else tm a d q - tm a d p) + (th a d q - th a d p) * (m.toInt - tm a d p), if tm a d p = tm a d q then 1 else tm a d q - tm a d p) := by unfold tide; rw [hp, hq]
      refine ⟨fun h => (by rw [et] at h; cases h), fun o w h => ?_⟩
      rw [et] at h
      simp only [Option.some.injEq, Prod.mk.injEq] at h
      obtain ⟨ho, hw⟩ := h
      have wp := hW.2.2.2.2.1 d p hd (by omega) hp2.1
      have wq := hW.2.2.2.2.1 d q hd (by omega) hq2.1
      have rp := hR.2.2.2.2.1 d p hd (by omega) hp2.1
      have rq := hR.2.2.2.2.1 d q hd (by omega) hq2.1
      have rp1 : fA S 4 (12 * d + p) = a (65 + 25 * d + 2 * p) := rp.1
      have rp2 : fA S 5 (12 * d + p) = a (66 + 25 * d + 2 * p) := rp.2
      have rq1 : fA S 4 (12 * d + q) = a (65 + 25 * d + 2 * q) := rq.1
      have rq2 : fA S 5 (12 * d + q) = a (66 + 25 * d + 2 * q) := rq.2
      have tp : (a (65 + 25 * d + 2 * p)).toInt = tm a d p := rfl
      have tq : (a (65 + 25 * d + 2 * q)).toInt = tm a d q := rfl
      have up : (a (66 + 25 * d + 2 * p)).toInt = th a d p := rfl
      have uq : (a (66 + 25 * d + 2 * q)).toInt = th a d q := rfl
      unfold mX8_seek_101
      rw [en_s, en_s, if_neg (nI_ne1 (by omega)), if_neg (nI_ne1 (by omega)), rd_nI (by omega) (by omega), ob, rq1, rd_nI (by omega) (by omega), ob, rp1, w_max, ob]
      simp only [fA_sL]
      rw [rd_nI (by omega) (by omega), ob, rq2, rd_nI (by omega) (by omega), ob, rp2, ob, rd_nI (by omega) (by omega), ob, rp1]
      generalize a (65 + 25 * d + 2 * p) = xp at *
      generalize a (65 + 25 * d + 2 * q) = xq at *
      generalize a (66 + 25 * d + 2 * p) = yp at *
      generalize a (66 + 25 * d + 2 * q) = yq at *
      have z1 : (1 : Int32).toInt = 1 := rfl
      have d1 : (xq - xp).toInt = xq.toInt - xp.toInt := ti_sub (by omega) (by omega)
      have hu : (if (1 : Int32) < xq - xp then xq - xp else 1).toInt = w := by
        rw [← hw]
        by_cases c : tm a d p = tm a d q
        · rw [if_pos c, if_neg (by rw [i_lt, d1]; omega)]; rfl
        · rw [if_neg c]
          by_cases c2 : (1 : Int32) < xq - xp
          · rw [if_pos c2, d1]; omega
          · rw [if_neg c2]; rw [i_lt, d1] at c2; omega
      have hwb : 1 ≤ w ∧ w ≤ 1439 := by
        rw [← hw]; by_cases c : tm a d p = tm a d q
        · rw [if_pos c]; omega
        · rw [if_neg c]; omega
      generalize (if (1 : Int32) < xq - xp then xq - xp else 1) = u at *
      refine ⟨_, _, rfl, ?_, by rw [t64, hu]⟩
      have d2 : (yq - yp).toInt = yq.toInt - yp.toInt := ti_sub (by omega) (by omega)
      have d3 : (m - xp).toInt = m.toInt - xp.toInt := ti_sub (by omega) (by omega)
      have fl : fL (sL S 1 u.toInt64) 1 = u.toInt64 := by rw [fL_sL, if_pos rfl]
      have b1 : -100 * w ≤ yp.toInt * w := Int.mul_le_mul_of_nonneg_right (by omega) (by omega)
      have b2 : yp.toInt * w ≤ 200 * w := Int.mul_le_mul_of_nonneg_right (by omega) (by omega)
      have b3 : -300 * (m.toInt - xp.toInt) ≤ (yq.toInt - yp.toInt) * (m.toInt - xp.toInt) := Int.mul_le_mul_of_nonneg_right (by omega) (by omega)
      have b4 : (yq.toInt - yp.toInt) * (m.toInt - xp.toInt) ≤ 300 * (m.toInt - xp.toInt) := Int.mul_le_mul_of_nonneg_right (by omega) (by omega)
      have m1 : (yp.toInt64 * u.toInt64).toInt = yp.toInt * w := by rw [tl_mul (by rw [t64, t64, hu]; omega) (by rw [t64, t64, hu]; omega), t64, t64, hu]
      have m2 : ((yq - yp).toInt64 * (m - xp).toInt64).toInt = (yq.toInt - yp.toInt) * (m.toInt - xp.toInt) := by rw [tl_mul (by rw [t64, t64, d2, d3]; omega) (by rw [t64, t64, d2, d3]; omega), t64, t64, d2, d3]
      rw [fl, tl_add (by rw [m1, m2]; omega) (by rw [m1, m2]; omega), m1, m2, ← ho, hw, up, uq, tp]
theorem y_seek {S : St} {a : Nat → Int32} {z d : Nat} (hz : 10000 ≤ z) (e0 : fA S 0 = a) (hW : WF a) (hd : d < 100) (m : Int32) :
    (tide a d m.toInt = none → mX10_tideAt z (nI d) m S = some (0, S)) ∧ ∀ o w, tide a d m.toInt = some (o, w) → ∃ L0 L1 : Int64, mX10_tideAt z (nI d) m S = some (1, sL (sL S 1 L1) 0 L0) ∧ L0.toInt = o ∧ L1.toInt = w := by
  obtain ⟨eT, hT⟩ := tn_nI hW hd
  have h0 : mX10_tideAt z (nI d) m S = mX10_tideAt_115 z m (nI (64 + 25 * d)) (ey (ahd (tm a d) m.toInt (tn a d))) (ey (bhd (tm a d) m.toInt (tn a d))) S := by
    unfold mX10_tideAt
    rw [show (64 : Int32) + 25 * nI d = nI (64 + 25 * d) from nI_lin 64 25 d]
    exact y_seekL hd hT e0 eT (tn a d) 0 z (by omega) (by omega)
  rw [h0]
  have z0 : (0 : Int32).toInt = 0 := rfl
  cases hp : ahd (tm a d) m.toInt (tn a d) with
  | none =>
    refine ⟨fun _ => by unfold mX10_tideAt_115; rw [ey_0, if_pos m1_neg], fun o w h => ?_⟩
    rw [tide_none (Or.inl hp)] at h; cases h
  | some p =>
    have hp2 := ahd_p _ _ _ _ hp
    cases hq : bhd (tm a d) m.toInt (tn a d) with
    | none =>
      refine ⟨fun _ => by unfold mX10_tideAt_115; rw [ey_s, ey_0, if_neg (nI_nn (by omega)), if_neg (by decide)], fun o w h => ?_⟩
      rw [tide_none (Or.inr hq)] at h; cases h
    | some q =>
      have hq2 := bhd_p _ _ _ _ hq
      have et : tide a d m.toInt = some (th a d p * (if tm a d p = tm a d q then 1 else tm a d q - tm a d p) + (th a d q - th a d p) * (m.toInt - tm a d p), if tm a d p = tm a d q then 1 else tm a d q - tm a d p) := by unfold tide; rw [hp, hq]
      refine ⟨fun h => (by rw [et] at h; cases h), fun o w h => ?_⟩
      rw [et] at h
      simp only [Option.some.injEq, Prod.mk.injEq] at h
      obtain ⟨ho, hw⟩ := h
      have wp := hW.2.2.2.2.1 d p hd (by omega) hp2.1
      have wq := hW.2.2.2.2.1 d q hd (by omega) hq2.1
      have tp : (a (65 + 25 * d + 2 * p)).toInt = tm a d p := rfl
      have tq : (a (65 + 25 * d + 2 * q)).toInt = tm a d q := rfl
      have up : (a (66 + 25 * d + 2 * p)).toInt = th a d p := rfl
      have uq : (a (66 + 25 * d + 2 * q)).toInt = th a d q := rfl
      have r1 : ∀ i, i < 12 → rd (fA S 0) 4564 (nI (64 + 25 * d) + 1 + 2 * nI i) = some (a (65 + 25 * d + 2 * i)) := fun i hi => by rw [rd_at (i := nI (64 + 25 * d) + 1 + 2 * nI i) _ (ixt d i 0) (by omega) (by omega), e0, Nat.add_zero]
      have r2 : ∀ i, i < 12 → rd (fA S 0) 4564 (nI (64 + 25 * d) + 2 + 2 * nI i) = some (a (66 + 25 * d + 2 * i)) := fun i hi => by rw [rd_at (i := nI (64 + 25 * d) + 2 + 2 * nI i) _ (ixt d i 1) (by omega) (by omega), e0]; congr 2; omega
      unfold mX10_tideAt_115
      rw [ey_s, ey_s, if_neg (nI_nn (by omega)), if_pos (by rw [i_le, nI_ti (by omega)]; omega), r2 p (by omega), ob, r2 q (by omega), ob, r1 p (by omega), ob, r1 q (by omega), ob]
      generalize a (65 + 25 * d + 2 * p) = xp at *
      generalize a (65 + 25 * d + 2 * q) = xq at *
      generalize a (66 + 25 * d + 2 * p) = yp at *
      generalize a (66 + 25 * d + 2 * q) = yq at *
      have hwb : 1 ≤ w ∧ w ≤ 1439 := by
        rw [← hw]; by_cases c : tm a d p = tm a d q
        · rw [if_pos c]; omega
        · rw [if_neg c]; omega
      have key : ∀ u : Int64, u.toInt = w → ∃ L0 L1 : Int64, mX10_tideAt_209 z m yp.toInt64 yq.toInt64 xp.toInt64 u S = some (1, sL (sL S 1 L1) 0 L0) ∧ L0.toInt = o ∧ L1.toInt = w := by
        intro u hu
        unfold mX10_tideAt_209
        refine ⟨_, _, rfl, ?_, hu⟩
        have d2 : (yq.toInt64 - yp.toInt64).toInt = yq.toInt - yp.toInt := by rw [tl_sub (by rw [t64, t64]; omega) (by rw [t64, t64]; omega), t64, t64]
        have d3 : (m.toInt64 - xp.toInt64).toInt = m.toInt - xp.toInt := by rw [tl_sub (by rw [t64, t64]; omega) (by rw [t64, t64]; omega), t64, t64]
        have fl : fL (sL S 1 u) 1 = u := by rw [fL_sL, if_pos rfl]
        have b1 : -100 * w ≤ yp.toInt * w := Int.mul_le_mul_of_nonneg_right (by omega) (by omega)
        have b2 : yp.toInt * w ≤ 200 * w := Int.mul_le_mul_of_nonneg_right (by omega) (by omega)
        have b3 : -300 * (m.toInt - xp.toInt) ≤ (yq.toInt - yp.toInt) * (m.toInt - xp.toInt) := Int.mul_le_mul_of_nonneg_right (by omega) (by omega)
        have b4 : (yq.toInt - yp.toInt) * (m.toInt - xp.toInt) ≤ 300 * (m.toInt - xp.toInt) := Int.mul_le_mul_of_nonneg_right (by omega) (by omega)
        have m1 : (yp.toInt64 * u).toInt = yp.toInt * w := by rw [tl_mul (by rw [t64, hu]; omega) (by rw [t64, hu]; omega), t64, hu]
        have m2 : ((yq.toInt64 - yp.toInt64) * (m.toInt64 - xp.toInt64)).toInt = (yq.toInt - yp.toInt) * (m.toInt - xp.toInt) := by rw [tl_mul (by rw [d2, d3]; omega) (by rw [d2, d3]; omega), d2, d3]
        rw [fl, tl_add (by rw [m1, m2]; omega) (by rw [m1, m2]; omega), m1, m2, ← ho, hw, up, uq, tp]
      by_cases c : tm a d p = tm a d q
      · rw [if_pos (by rw [lc_eq, t64, t64]; omega)]
        rw [if_pos c] at hw
        exact key 1 (by rw [← hw]; rfl)
      · rw [if_neg (by rw [lc_eq, t64, t64]; omega)]
        rw [if_neg c] at hw
        refine key _ ?_
        rw [tl_sub (by rw [t64, t64]; omega) (by rw [t64, t64]; omega), t64, t64]; omega
/-- CORRECTED, -30000 of one that waits -/
def rate (a : Nat → Int32) (n : Nat) : Int := if sa a n 0 = 1 then la a (sa a n 5).toNat 1 else 2000
def numr (a : Nat → Int32) (n : Nat) (o w : Int) : Int := (sa a n 3 * rate a n + la a (sa a n 5).toNat 2 * 2000) * w - o * 2000
def cor (a : Nat → Int32) (n : Nat) : Int := if 3 ≤ sa a n 0 then sa a n 3 else match tide a (sa a n 4).toNat (sa a n 6) with
  | none => -30000
  | some (o, w) => numr a n o w / (w * 2000)
def wts (a : Nat → Int32) (n : Nat) : Prop := sa a n 0 < 3 ∧ tide a (sa a n 4).toNat (sa a n 6) = none
theorem numr_b {a : Nat → Int32} (hW : WF a) {n : Nat} (hn : n < ns a) (hk : sa a n 0 < 3) {o w : Int} (h : tide a (sa a n 4).toNat (sa a n 6) = some (o, w)) : (1 ≤ w ∧ w ≤ 1439) ∧ -500000 * w ≤ numr a n o w ∧ numr a n o w ≤ 40300000 * w ∧ (0 ≤ rate a n ∧ rate a n ≤ 2000) ∧ (-50 ≤ la a (sa a n 5).toNat 2 ∧ la a (sa a n 5).toNat 2 ≤ 50) ∧ (-100 * w ≤ o ∧ o ≤ 200 * w) ∧ (0 ≤ sa a n 3 * rate a n ∧ sa a n 3 * rate a n ≤ 39998000) := by
  have hN := (ns_nI hW).2
  have hL := (nl_nI hW).2
  obtain ⟨g1, g2, g3, g4, g5, g6, g7, g8, g9, g10⟩ := hW.2.2.2.2.2 n (by omega) hn
  have g6' := g6 hk
  have tb := tide_b hW (by omega) h
  have lb := hW.2.2.1 (sa a n 5).toNat (by omega) (by omega)
  have rb : 0 ≤ rate a n ∧ rate a n ≤ 2000 := by unfold rate; split <;> omega
  have p1 : sa a n 3 * rate a n ≤ 19999 * 2000 := by
    have q1 : sa a n 3 * rate a n ≤ 19999 * rate a n := Int.mul_le_mul_of_nonneg_right (by omega) rb.1
    omega
  have p0 : 0 ≤ sa a n 3 * rate a n := Int.mul_nonneg (by omega) rb.1
  refine ⟨by omega, ?_, ?_, rb, by omega, by omega, by omega, by omega⟩
  · unfold numr
    have : -100000 * w ≤ (sa a n 3 * rate a n + la a (sa a n 5).toNat 2 * 2000) * w := Int.mul_le_mul_of_nonneg_right (by omega) (by omega)
    omega
  · unfold numr
    have : (sa a n 3 * rate a n + la a (sa a n 5).toNat 2 * 2000) * w ≤ 40098000 * w := Int.mul_le_mul_of_nonneg_right (by omega) (by omega)
    omega
theorem cor_b {a : Nat → Int32} (hW : WF a) {n : Nat} (hn : n < ns a) : (wts a n → cor a n = -30000) ∧ (¬ wts a n → -251 ≤ cor a n ∧ cor a n ≤ 20200) := by
  have hN := (ns_nI hW).2
  obtain ⟨g1, g2, g3, g4, g5, g6, g7, g8, g9, g10⟩ := hW.2.2.2.2.2 n (by omega) hn
  refine ⟨fun h => ?_, fun h => ?_⟩
  · unfold cor; rw [if_neg (by have := h.1; omega), h.2]
  · unfold cor
    by_cases c : 3 ≤ sa a n 0
    · rw [if_pos c]; omega
    · rw [if_neg c]
      cases ht : tide a (sa a n 4).toNat (sa a n 6) with
      | none => exact absurd ⟨by omega, ht⟩ h
      | some v =>
        obtain ⟨o, w⟩ := v
        obtain ⟨wb, b1, b2, -⟩ := numr_b hW hn (by omega) ht
        show -251 ≤ numr a n o w / (w * 2000) ∧ numr a n o w / (w * 2000) ≤ 20200
        refine ⟨?_, ?_⟩
        · rw [Int.le_ediv_iff_mul_le (by omega)]; omega
        · have : numr a n o w / (w * 2000) < 20201 := by rw [Int.ediv_lt_iff_lt_mul (by omega)]; omega
          omega
theorem cor_w {a : Nat → Int32} (hW : WF a) {n : Nat} (hn : n < ns a) : cor a n = -30000 ↔ wts a n := by
  have := cor_b hW hn
  by_cases c : wts a n
  · exact ⟨fun _ => c, fun _ => this.1 c⟩
  · exact ⟨fun h => by have := this.2 c; omega, fun h => absurd h c⟩
/-- what changes in both when a depth is corrected: the numbers of the tide alone -/
def Lo (S S' : St) : Prop := S'.1 = S.1 ∧ S'.2.2 = S.2.2
theorem Lo.rf (S : St) : Lo S S := ⟨rfl, rfl⟩
theorem Lo.tr {S S' S'' : St} (h : Lo S S') (g : Lo S' S'') : Lo S S'' := ⟨g.1.trans h.1, g.2.trans h.2⟩
theorem Lo.sL (S : St) (k : Nat) (x : Int64) : Lo S (sL S k x) := ⟨rfl, rfl⟩
theorem Lo.i {S S' : St} (h : Lo S S') (k : Nat) : fI S' k = fI S k := by unfold fI; rw [h.1]
theorem Lo.a {S S' : St} (h : Lo S S') (k : Nat) : fA S' k = fA S k := by unfold fA; rw [h.2]
theorem Lo.px {S S' : St} (h : Lo S S') : PX S S' := ⟨fun k _ => h.i k, fun k _ _ _ => h.a k⟩
theorem Lo.py {S S' : St} (h : Lo S S') : PY S S' := ⟨fun k _ => h.i k, fun k _ => h.a k⟩
