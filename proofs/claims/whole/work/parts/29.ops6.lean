/-! PURE: tide -/
def fk (f : Nat → Int32) (m : Int32) : Nat → Nat → Nat
  | 0, k => k
  | r + 1, k => if f k = m then k else fk f m r (k + 1)
theorem fk_le (f : Nat → Int32) (m : Int32) : ∀ r k, k ≤ fk f m r k ∧ fk f m r k ≤ k + r ∧ (fk f m r k < k + r → f (fk f m r k) = m) := by
  intro r
  induction r with
  | zero => intro k; exact ⟨Nat.le_refl _, Nat.le_refl _, fun h => absurd h (Nat.lt_irrefl _)⟩
  | succ r ih =>
    intro k
    unfold fk
    by_cases c : f k = m
    · rw [if_pos c]; exact ⟨Nat.le_refl _, by omega, fun _ => c⟩
    · rw [if_neg c]
      obtain ⟨h1, h2, h3⟩ := ih (k + 1)
      exact ⟨by omega, by omega, fun h => h3 (by omega)⟩
theorem ixr (d k : Nat) : nI d * 12 + nI k = nI (12 * d + k) := by
  rw [show (12 : Int32) = nI 12 from rfl, pk_mul, nI_add, Nat.mul_comm]
theorem ixt (d k j : Nat) : nI (64 + 25 * d) + nI (1 + j) + 2 * nI k = nI (65 + 25 * d + 2 * k + j) := by
  rw [show (2 : Int32) = nI 2 from rfl, pk_mul, nI_add, nI_add]; congr 1; omega
theorem x_rowL {S : St} {a : Nat → Int32} (hR : Rel 0 S a) (z : Nat) {d T : Nat} (hd : d < 100) (hT : T ≤ 12) (eT : tn a d = T) (m : Int32) : ∀ r k n, k + r = T → r < n → mX8_rowOf_18 z S m (nI (12 * d + T)) n (nI (12 * d + k)) = some (if fk (fun i => a (65 + 25 * d + 2 * i)) m r k < T then nI (12 * d + fk (fun i => a (65 + 25 * d + 2 * i)) m r k) else -1) := by
  intro r
  induction r with
  | zero =>
    intro k n hk hn
    obtain ⟨n, rfl⟩ : ∃ n', n = n' + 1 := ⟨n - 1, by omega⟩
    show mX8_rowOf_18b z S _ m _ _ = _
    unfold mX8_rowOf_18b fk
    rw [if_pos (by rw [nI_leI (by omega) (by omega)]; omega), if_neg (by omega)]
  | succ r ih =>
    intro k n hk hn
    obtain ⟨n, rfl⟩ : ∃ n', n = n' + 1 := ⟨n - 1, by omega⟩
    show mX8_rowOf_18b z S _ m _ _ = _
    unfold mX8_rowOf_18b
    have e := (hR.2.2.2.2.1 d k hd (by omega) (by omega)).1
    rw [if_neg (by rw [nI_leI (by omega) (by omega)]; omega), rd_nI (by omega) (by omega), ob, show fA S 4 (12 * d + k) = a (65 + 25 * d + 2 * k) from e]
    unfold fk
    by_cases c : a (65 + 25 * d + 2 * k) = m
    · rw [if_pos c, if_pos c, if_pos (by omega)]
    · rw [if_neg c, if_neg c, nI_1]
      exact ih (k + 1) n (by omega) (by omega)
theorem y_rowL {S : St} (z : Nat) {d T : Nat} (hd : d < 100) (hT : T ≤ 12) (eT : fA S 0 (64 + 25 * d) = nI T) (m h : Int32) : ∀ r k n, k + r = T → r < n → mX10_tide_47 z m h (nI (64 + 25 * d)) n (nI k) S = mX10_tide_83 z m h (nI (64 + 25 * d)) (nI (fk (fun i => fA S 0 (65 + 25 * d + 2 * i)) m r k)) S := by
  intro r
  induction r with
  | zero =>
    intro k n hk hn
    obtain ⟨n, rfl⟩ : ∃ n', n = n' + 1 := ⟨n - 1, by omega⟩
    show mX10_tide_47b z _ m h _ _ S = _
    unfold mX10_tide_47b fk
    rw [rd_nI (by omega) (by omega), ob, eT, if_pos (by rw [nI_leI (by omega) (by omega)]; omega)]
  | succ r ih =>
    intro k n hk hn
    obtain ⟨n, rfl⟩ : ∃ n', n = n' + 1 := ⟨n - 1, by omega⟩
    show mX10_tide_47b z _ m h _ _ S = _
    unfold mX10_tide_47b
    rw [rd_nI (by omega) (by omega), ob, eT, if_neg (by rw [nI_leI (by omega) (by omega)]; omega), rd_at (i := nI (64 + 25 * d) + 1 + 2 * nI k) _ (ixt d k 0) (by omega) (by omega), ob]
    show (if fA S 0 (65 + 25 * d + 2 * k) = m then _ else _) = _
    conv => rhs; unfold fk
    by_cases c : fA S 0 (65 + 25 * d + 2 * k) = m
    · rw [if_pos c, if_pos c]
    · rw [if_neg c, if_neg c, nI_1]
      exact ih (k + 1) n (by omega) (by omega)
theorem tn_nI {a : Nat → Int32} (h : WF a) {d : Nat} (hd : d < 100) : a (64 + 25 * d) = nI (tn a d) ∧ tn a d ≤ 12 := ⟨i_nI (h.2.2.2.1 d hd).1, by have := h.2.2.2.1 d hd; unfold tn; omega⟩
theorem p_tide {z : Nat} (hz : 10000 ≤ z) : ok_tide z Inv := by
  intro Sx Sy v1 v2 v3 hI
  have hI' := hI
  obtain ⟨hR, hW, hM, c, nx, ny, hc, hnx, hny, x6, x5, y0, y1, hh⟩ := hI'
  unfold mX9_tide mX10_tide
  rw [x_day, ob, y_in2 (B := 0) (C := 99) rfl rfl, ob]
  by_cases c1 : 0 ≤ v1.toInt ∧ v1.toInt ≤ 99
  · rw [if_pos c1, if_neg one_ne, if_neg one_ne, x_min, ob, y_in2 (B := 0) (C := 1439) rfl rfl, ob]
    by_cases c2 : 0 ≤ v2.toInt ∧ v2.toInt ≤ 1439
    · rw [if_pos c2, if_neg one_ne, if_neg one_ne, x_in2 (B := -100) (C := 200) rfl rfl, ob, y_in2 (B := -100) (C := 200) rfl rfl, ob]
      by_cases c3 : -100 ≤ v3.toInt ∧ v3.toInt ≤ 200
      · rw [if_pos c3, if_neg one_ne, if_neg one_ne]
        obtain ⟨d, rfl, hd'⟩ := i_ex c1.1
        have hd : d < 100 := by omega
        obtain ⟨eT, hT⟩ := tn_nI hW hd
        generalize hTe : tn (fA Sy 0) d = T at eT hT
        have xT : fA Sx 3 d = nI T := (hR.2.2.2.1 d hd).trans eT
        obtain ⟨f1, f2, f3⟩ := fk_le (fun i => fA Sy 0 (65 + 25 * d + 2 * i)) v2 T 0
        have hx : mX8_rowOf z Sx (nI d) v2 = some (if fk (fun i => fA Sy 0 (65 + 25 * d + 2 * i)) v2 T 0 < T then nI (12 * d + fk (fun i => fA Sy 0 (65 + 25 * d + 2 * i)) v2 T 0) else -1) := by
          unfold mX8_rowOf
          rw [rd_nI hd (by omega), ob, xT, ixr, show nI d * 12 = nI (12 * d + 0) from by rw [← ixr]; simp [nI_0]]
          exact x_rowL hR z hd hT hTe v2 T 0 z (by omega) (by omega)
        have hy : mX10_tide_47 z v2 v3 (64 + 25 * nI d) z 0 Sy = mX10_tide_83 z v2 v3 (nI (64 + 25 * d)) (nI (fk (fun i => fA Sy 0 (65 + 25 * d + 2 * i)) v2 T 0)) Sy := by
          rw [show (64 : Int32) + 25 * nI d = nI (64 + 25 * d) from nI_lin 64 25 d]
          exact y_rowL z hd hT eT v2 v3 T 0 z (by omega) (by omega)
        rw [hx, ob, hy]
        generalize fk (fun i => fA Sy 0 (65 + 25 * d + 2 * i)) v2 T 0 = kk at f1 f2 f3
        unfold mX10_tide_83
        obtain ⟨g, hya, hg⟩ := w_acts hz hny hc y1 y0
        by_cases c4 : kk < T
        · rw [if_pos c4, if_neg (nI_ne1 (by omega)), rd_nI (by omega) (by omega), ob, w_push 2 (nI (12 * d + kk)) (fA Sx 5 (12 * d + kk)) hnx hc x5 x6, ob, wr_nI (by omega) (by omega), ob,
            rd_nI hd (by omega), ob, if_neg (c := nI kk = 12) (by rw [show (12 : Int32) = nI 12 from rfl, nI_eq (by omega) (by omega)]; omega), hya, ob,
            wr_at (i := nI (64 + 25 * d) + 1 + 2 * nI kk) _ (ixt d kk 0) (by omega) (by omega), ob, wr_at (i := nI (64 + 25 * d) + 2 + 2 * nI kk) _ (ixt d kk 1) (by omega) (by omega), ob, fA_eq, sA_sA,
            rd_nI (by omega) (by omega), ob, fA_eq, up_n _ _ (by omega), up_n _ _ (by omega), show fA (pushY g ny c Sy) 0 = fA Sy 0 from rfl, eT,
            if_neg (c := nI kk = nI T) (by rw [nI_eq (by omega) (by omega)]; omega)]
          unfold mX10_tide_149
          rw [rd_nI (by omega) (by omega), ob, fA_eq, up_n _ _ (by omega), up_n _ _ (by omega), eT]
          have fe : fA Sy 0 (65 + 25 * d + 2 * kk) = v2 := f3 (by omega)
          have e0 : upd (fA Sy 0) (65 + 25 * d + 2 * kk + 0) v2 = fA Sy 0 := upd_self fe
          rw [e0]
          have q : fA Sx 5 (12 * d + kk) = fA Sy 0 (66 + 25 * d + 2 * kk) := (hR.2.2.2.2.1 d kk hd (by omega) (by omega)).2
          refine ⟨_, _, rfl, rfl, ?_, ?_⟩
          · show fA (pushX 2 (nI (12 * d + kk)) (fA Sx 5 (12 * d + kk)) nx c Sx) 3 d = nI T
            exact xT
          · refine inv_push hI hc hnx hny hh hg (FrU.A _ (by omega) _) rfl (rel_tide (Rel.push hR) hd (k := kk) (j := 1) (by omega) (by omega) v3) (wf_tide hW hd (by omega) (by omega) v3 ⟨fun h => absurd h (by omega), fun _ => c3⟩) ?_
            rw [q]
            refine und_height hd (by omega) (fun i hi => ?_)
            rw [up_e, up_e]
            by_cases w : i = 66 + 25 * d + 2 * kk
            · rw [if_pos w, w]
            · rw [if_neg w, if_neg (by omega)]
        · have ek : kk = T := by omega
          subst ek
          rw [if_neg c4, if_pos rfl, rd_nI hd (by omega), ob, xT]
          by_cases c5 : kk = 12
          · subst c5
            rw [if_neg (c := nI 12 < 12) (by decide), if_pos (c := nI 12 = 12) rfl]
            exact ⟨_, _, rfl, rfl, rfl, hI⟩
          · have hx8 : mX8_add (nI d) v2 v3 Sx = some (sA (sA (sA Sx 4 (upd (fA Sx 4) (12 * d + kk) v2)) 5 (upd (fA Sx 5) (12 * d + kk) v3)) 3 (upd (fA Sx 3) d (nI (kk + 1)))) := by
              unfold mX8_add
              rw [rd_nI hd (by omega), ob, xT, if_pos (c := nI kk < 12) (by rw [show (12 : Int32) = nI 12 from rfl, nI_ltI (by omega) (by omega)]; omega), ob, ixr, wr_nI (by omega) (by omega), ob, wr_nI (by omega) (by omega), ob, fA_ne (by omega),
                rd_nI hd (by omega), ob, fA_ne (by omega), fA_ne (by omega), xT, nI_1, wr_nI hd (by omega), ob]
            rw [if_pos (c := nI kk < 12) (by rw [show (12 : Int32) = nI 12 from rfl, nI_ltI (by omega) (by omega)]; omega), hx8, ob, w_push 1 (nI d) 0 hnx hc (by exact x5) (by exact x6), ob, rd_nI hd (by omega), ob,
              if_neg (c := nI kk = 12) (by rw [show (12 : Int32) = nI 12 from rfl, nI_eq (by omega) (by omega)]; omega), hya, ob,
              wr_at (i := nI (64 + 25 * d) + 1 + 2 * nI kk) _ (ixt d kk 0) (by omega) (by omega), ob, wr_at (i := nI (64 + 25 * d) + 2 + 2 * nI kk) _ (ixt d kk 1) (by omega) (by omega), ob, fA_eq, sA_sA,
              rd_nI (by omega) (by omega), ob, fA_eq, up_n _ _ (by omega), up_n _ _ (by omega), show fA (pushY g ny c Sy) 0 = fA Sy 0 from rfl, eT, if_pos rfl, ob, nI_1, wr_nI (by omega) (by omega), ob, sA_sA]
            unfold mX10_tide_149
            rw [rd_nI (by omega) (by omega), ob, fA_eq, up_s]
            refine ⟨_, _, rfl, rfl, ?_, ?_⟩
            · show upd (fA Sx 3) d (nI (kk + 1)) d = nI (kk + 1)
              exact up_s _ _ _
            · have r1 := rel_tide (rel_tide hR hd (k := kk) (j := 0) (by omega) (by omega) v2) hd (k := kk) (j := 1) (by omega) (by omega) v3
              have r2 := rel_tn r1 hd (nI (kk + 1)) (fun i h1 h2 => by
                rw [nI_ti (by omega)] at h2
                by_cases w : i = kk
                · subst w
                  refine ⟨?_, ?_⟩
                  · rw [fA_ne (by omega), fA_eq, up_s, up_n _ _ (by omega)]; exact (up_s _ _ _).symm
                  · rw [fA_eq, up_s]
                    have : 66 + 25 * d + 2 * i = 65 + 25 * d + 2 * i + 1 := by omega
                    rw [this, up_s]
                · have := hR.2.2.2.2.1 d i hd h1 (by omega)
                  refine ⟨?_, ?_⟩
                  · rw [fA_ne (by omega), fA_eq, up_n _ _ (by omega), up_n _ _ (by omega), up_n _ _ (by omega)]; exact this.1
                  · rw [fA_eq, up_n _ _ (by omega), up_n _ _ (by omega), up_n _ _ (by omega), fA_ne (by omega)]; exact this.2)
              have w1 := wf_tide (wf_tide hW hd (k := kk) (j := 0) (by omega) (by omega) v2 ⟨fun _ => c2, fun h => absurd h (by omega)⟩) hd (k := kk) (j := 1) (by omega) (by omega) v3 ⟨fun h => absurd h (by omega), fun _ => c3⟩
              have w2 := wf_tn (k := kk) w1 hd (by omega) (by rw [tn_up (by omega), tn_up (by omega)]; exact hTe) (by
                have m1 : tm (upd (upd (fA Sy 0) (65 + 25 * d + 2 * kk + 0) v2) (65 + 25 * d + 2 * kk + 1) v3) d kk = v2.toInt := by unfold tm; rw [up_n _ _ (by omega)]; congr 1; exact up_s _ _ _
                have m2 : th (upd (upd (fA Sy 0) (65 + 25 * d + 2 * kk + 0) v2) (65 + 25 * d + 2 * kk + 1) v3) d kk = v3.toInt := by unfold th; rw [show 66 + 25 * d + 2 * kk = 65 + 25 * d + 2 * kk + 1 by omega, up_s]
                rw [m1, m2]; exact ⟨c2, c3⟩)
              refine inv_push (k := 1) (w := nI d) (o := 0) hI hc hnx hny hh hg (FrU.push ?_) rfl (Rel.push r2) w2 ?_
              · exact ((FrU.A Sx (k := 4) (by omega) _).tr (FrU.A _ (k := 5) (by omega) _)).tr (FrU.A _ (k := 3) (by omega) _)
              · refine und_newtide hd (m := kk) (by omega) (up_s _ _ _) eT (fun i hi a1 a2 a3 => ?_)
                rw [up_n _ _ a1, up_n _ _ (by omega), up_n _ _ (by omega)]
      · rw [if_neg c3, if_pos rfl, if_pos rfl]
        exact ⟨_, _, rfl, rfl, rfl, hI⟩
    · rw [if_neg c2, if_pos rfl, if_pos rfl]
      exact ⟨_, _, rfl, rfl, rfl, hI⟩
  · rw [if_neg c1, if_pos rfl, if_pos rfl]
    exact ⟨_, _, rfl, rfl, rfl, hI⟩
