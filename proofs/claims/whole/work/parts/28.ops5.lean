/-! PURE: echo, sweep, notice -/
theorem s_l : ∀ n, n < 32 → ((nI n &&& 31).toBitVec.smod 32).toNat = n := by decide +kernel
theorem nI_or (a b : Nat) : nI a ||| nI b = nI (a ||| b) := by
  apply Int32.toBitVec_inj.mp
  show BitVec.ofNat 32 a ||| BitVec.ofNat 32 b = BitVec.ofNat 32 (a ||| b)
  rw [BitVec.ofNat_or]
theorem cut_m (v : Int32) : ∃ j : Nat, j < 8388608 ∧ (v &&& 8388607) ||| 8388608 = nI (8388608 + j) := by
  obtain ⟨j, hj, e⟩ := pk_andE v (m := 8388607) 23 (by decide)
  refine ⟨j, by omega, ?_⟩
  have h := Nat.two_pow_add_eq_or_of_lt (i := 23) (b := j) hj 1
  rw [e, show (8388608 : Int32) = nI 8388608 from rfl, nI_or, Nat.or_comm]
  congr 1
  exact h.symm
theorem cut_both (S S' : St) (v : Int32) : ∃ u u' : Int32, mX9_cutFloat S v = some u ∧ mX10_cut S' v = some u' ∧ (u = u' ∨ (¬ (0 ≤ u.toInt ∧ u.toInt ≤ 19999) ∧ ¬ (0 ≤ u'.toInt ∧ u'.toInt ≤ 19999))) := by
  unfold mX9_cutFloat mX10_cut
  obtain ⟨e, he, hE⟩ := pk_andE ((v.toUInt32 >>> ((23 : Int32).toUInt32 &&& Int32.toUInt32 31)).toInt32) (m := 255) 8 (by decide)
  obtain ⟨j, hj, hM⟩ := cut_m v
  simp only [hE, hM]
  have z0 : (0 : Int32).toInt = 0 := rfl
  have z1 : (-1 : Int32).toInt = -1 := rfl
  have te : (nI e).toInt = e := nI_ti (by omega)
  have z127 : (127 : Int32).toInt = 127 := rfl
  have t1 : (nI e - 127).toInt = (e : Int) - 127 := by rw [ti_sub (by omega) (by omega)]; omega
  have z14 : (14 : Int32).toInt = 14 := rfl
  have z150 : (150 : Int32).toInt = 150 := rfl
  have n1 : ¬ (0 ≤ (-1 : Int32).toInt ∧ (-1 : Int32).toInt ≤ 19999) := by omega
  by_cases c1 : e < 127
  · rw [if_neg (c := (0 : Int32) ≤ nI e - 127) (by rw [i_le]; omega), if_neg (c := (127 : Int32) ≤ nI e) (by rw [i_le]; omega)]
    exact ⟨0, 0, rfl, rfl, Or.inl rfl⟩
  rw [if_pos (c := (0 : Int32) ≤ nI e - 127) (by rw [i_le]; omega), if_pos (c := (127 : Int32) ≤ nI e) (by rw [i_le]; omega)]
  by_cases c2 : e ≤ 141
  · rw [if_pos (c := nI e - 127 ≤ 14) (by rw [i_le]; omega)]
    have es : (23 : Int32) - (nI e - 127) = nI (150 - e) := by
      rw [i_eq, nI_ti (by omega), ti_sub (by rw [t1, show (23 : Int32).toInt = 23 from rfl]; omega) (by rw [t1, show (23 : Int32).toInt = 23 from rfl]; omega), t1, show (23 : Int32).toInt = 23 from rfl]; omega
    have es2 : (150 : Int32) - nI e = nI (150 - e) := by
      rw [show (150 : Int32) = nI 150 from rfl, pk_sub (by omega)]
    rw [es, es2, pk_shrN (n := 8388608 + j) (by omega) _ (150 - e) (s_l _ (by omega))]
    have pw : 1 ≤ (8388608 + j) / 2 ^ (150 - e) := by
      have h23 : 2 ^ (150 - e) ≤ 2 ^ 23 := Nat.pow_le_pow_right (by omega) (by omega)
      have hp : 0 < 2 ^ (150 - e) := Nat.pow_pos (by omega)
      rw [Nat.le_div_iff_mul_le hp]; omega
    have pl : (8388608 + j) / 2 ^ (150 - e) ≤ 8388608 + j := Nat.div_le_self _ _
    generalize (8388608 + j) / 2 ^ (150 - e) = t at pw pl
    by_cases c3 : v < 0
    · rw [if_neg (c := (0 : Int32) ≤ v) (by rw [i_lt] at c3; rw [i_le]; omega), if_pos c3]
      refine ⟨_, _, rfl, rfl, Or.inr ⟨?_, n1⟩⟩
      rw [sb_negT (by omega)]; omega
    · rw [if_pos (c := (0 : Int32) ≤ v) (by rw [i_lt] at c3; rw [i_le]; omega), if_neg c3, if_pos (c := nI e ≤ 150) (by rw [i_le]; omega)]
      exact ⟨_, _, rfl, rfl, Or.inl rfl⟩
  · rw [if_neg (c := nI e - 127 ≤ 14) (by rw [i_le]; omega)]
    by_cases c3 : v < 0
    · rw [if_pos c3]
      exact ⟨_, _, rfl, rfl, Or.inl rfl⟩
    · rw [if_neg c3]
      by_cases c4 : e ≤ 150
      · rw [if_pos (c := nI e ≤ 150) (by rw [i_le]; omega)]
        have es2 : (150 : Int32) - nI e = nI (150 - e) := by
          rw [show (150 : Int32) = nI 150 from rfl, pk_sub (by omega)]
        rw [es2, pk_shrN (n := 8388608 + j) (by omega) _ (150 - e) (s_l _ (by omega))]
        have pw : 32768 ≤ (8388608 + j) / 2 ^ (150 - e) := by
          have h23 : 2 ^ (150 - e) ≤ 2 ^ 8 := Nat.pow_le_pow_right (by omega) (by omega)
          have hp : 0 < 2 ^ (150 - e) := Nat.pow_pos (by omega)
          rw [Nat.le_div_iff_mul_le hp]; omega
        have pl : (8388608 + j) / 2 ^ (150 - e) ≤ 8388608 + j := Nat.div_le_self _ _
        generalize (8388608 + j) / 2 ^ (150 - e) = t at pw pl
        refine ⟨_, _, rfl, rfl, Or.inr ⟨n1, ?_⟩⟩
        rw [nI_ti (by omega)]; omega
      · rw [if_neg (c := nI e ≤ 150) (by rw [i_le]; omega)]
        exact ⟨_, _, rfl, rfl, Or.inl rfl⟩
theorem p_echo {z : Nat} (hz : 10000 ≤ z) : ok_echo z Inv := by
  intro Sx Sy v1 v2 v3 v4 v5 hI
  obtain ⟨e0, hl⟩ := nl_nI hI.2.1
  obtain ⟨e1, hn⟩ := ns_nI hI.2.1
  unfold mX9_echo mX10_echo
  obtain ⟨u, u', hu, hu', hc⟩ := cut_both Sx Sy v5
  rw [hu, ob, hu', ob, x_in2 (B := 0) (C := 19999) rfl rfl, ob]
  by_cases g : Gd (nl (fA Sy 0)) (ns (fA Sy 0)) v1 v2 v3 v4
  · rw [y_mayT e0 hl e1 g, ob, if_neg one_ne, y_in2 (B := 0) (C := 19999) rfl rfl, ob]
    rcases hc with rfl | ⟨n1, n2⟩
    · by_cases r : 0 ≤ u.toInt ∧ u.toInt ≤ 19999
      · rw [if_pos r, if_neg one_ne, if_neg one_ne]
        have g3 := g.2.2.1
        have z1 : (1 : Int32).toInt = 1 := rfl
        obtain ⟨n, l, X, Y, h1, h2, rfl, h4, h5, h6, h7⟩ := p_of hz hI 1 v1 v2 v3 v4 u 1 1 (by decide) (by omega) g (by omega) (by omega)
        rw [h4, ob, show (0 : Int32) = nI 0 from rfl, y_lineOf h2 (by omega), ob, show 4 + 3 * l + 0 = 4 + 3 * l by omega, h5, ob]
        rw [h7 rfl rfl] at h6
        exact ⟨_, _, rfl, rfl, rfl, h6⟩
      · rw [if_neg r, if_pos rfl, if_pos rfl]
        exact ⟨_, _, rfl, rfl, rfl, hI⟩
    · rw [if_neg n1, if_neg n2, if_pos rfl, if_pos rfl]
      exact ⟨_, _, rfl, rfl, rfl, hI⟩
  · rw [y_mayF e0 hl e1 hn g, ob, if_pos rfl, x_aolF (hI.1.1.trans e0) hl (hI.1.2.1.trans e1) hn 1 u g, ob]
    refine ⟨(-1, Sx), _, ?_, rfl, rfl, hI⟩
    by_cases r : 0 ≤ u.toInt ∧ u.toInt ≤ 19999
    · rw [if_pos r, if_neg one_ne]
    · rw [if_neg r, if_pos rfl]
theorem p_sweep {z : Nat} (hz : 10000 ≤ z) : ok_sweep z Inv := by
  intro Sx Sy v1 v2 v3 v4 v5 v6 v7 hI
  obtain ⟨e0, hl⟩ := nl_nI hI.2.1
  obtain ⟨e1, hn⟩ := ns_nI hI.2.1
  unfold mX9_sweep mX10_sweep
  rw [x_pl, ob]
  have z256 : (256 : Int32).toInt = 256 := rfl
  by_cases p : (0 ≤ v3.toInt ∧ v3.toInt ≤ 255) ∧ (0 ≤ v4.toInt ∧ v4.toInt ≤ 255)
  · have t3 : ((256 : Int32) - v3).toInt = 256 - v3.toInt := by rw [ti_sub (by omega) (by omega), z256]
    have t4 : ((256 : Int32) - v4).toInt = 256 - v4.toInt := by rw [ti_sub (by omega) (by omega), z256]
    rw [if_pos p, if_neg one_ne, x_in2 (B := 1) rfl t3, ob]
    by_cases g : Gd (nl (fA Sy 0)) (ns (fA Sy 0)) v1 v2 v3 v4
    · rw [y_mayT e0 hl e1 g, ob, if_neg one_ne, y_in2 (B := 1) rfl t3, ob]
      by_cases c5 : 1 ≤ v5.toInt ∧ v5.toInt ≤ 256 - v3.toInt
      · rw [if_pos c5, if_neg one_ne, if_neg one_ne, x_in2 (B := 1) rfl t4, ob, y_in2 (B := 1) rfl t4, ob]
        by_cases c6 : 1 ≤ v6.toInt ∧ v6.toInt ≤ 256 - v4.toInt
        · rw [if_pos c6, if_neg one_ne, if_neg one_ne, x_in2 (B := 0) (C := 9999) rfl rfl, ob, y_in2 (B := 0) (C := 9999) rfl rfl, ob]
          by_cases r : 0 ≤ v7.toInt ∧ v7.toInt ≤ 9999
          · rw [if_pos r, if_neg one_ne, if_neg one_ne]
            obtain ⟨n, l, X, Y, h1, h2, rfl, h4, h5, h6, h7⟩ := p_of hz hI 2 v1 v2 v3 v4 v7 v5 v6 (by decide) (by omega) g (by omega) (by omega)
            rw [h4, ob, if_neg (nI_ne1 (by omega)), x_span h1, ob, show (0 : Int32) = nI 0 from rfl, y_lineOf h2 (by omega), ob, show 4 + 3 * l + 0 = 4 + 3 * l by omega, h5, ob]
            exact ⟨_, _, rfl, rfl, rfl, h6⟩
          · rw [if_neg r, if_pos rfl, if_pos rfl]
            exact ⟨_, _, rfl, rfl, rfl, hI⟩
        · rw [if_neg c6, if_pos rfl, if_pos rfl]
          exact ⟨_, _, rfl, rfl, rfl, hI⟩
      · rw [if_neg c5, if_pos rfl, if_pos rfl]
        exact ⟨_, _, rfl, rfl, rfl, hI⟩
    · rw [y_mayF e0 hl e1 hn g, ob, if_pos rfl]
      refine ⟨(-1, Sx), _, ?_, rfl, rfl, hI⟩
      by_cases c5 : 1 ≤ v5.toInt ∧ v5.toInt ≤ 256 - v3.toInt
      · rw [if_pos c5, if_neg one_ne, x_in2 (B := 1) rfl t4, ob]
        by_cases c6 : 1 ≤ v6.toInt ∧ v6.toInt ≤ 256 - v4.toInt
        · rw [if_pos c6, if_neg one_ne, x_in2 (B := 0) (C := 9999) rfl rfl, ob]
          by_cases r : 0 ≤ v7.toInt ∧ v7.toInt ≤ 9999
          · rw [if_pos r, if_neg one_ne, x_aolF (hI.1.1.trans e0) hl (hI.1.2.1.trans e1) hn 2 v7 g, ob, if_pos rfl]
          · rw [if_neg r, if_pos rfl]
        · rw [if_neg c6, if_pos rfl]
      · rw [if_neg c5, if_pos rfl]
  · rw [if_neg p, if_pos rfl, y_mayF e0 hl e1 hn (fun g => p g.2.2.1), ob, if_pos rfl]
    exact ⟨_, _, rfl, rfl, rfl, hI⟩
/-- a notice, its numbers being right -/
theorem p_not {z : Nat} (hz : 10000 ≤ z) {Sx Sy : St} (hI : Inv Sx Sy) (k d v3 v4 r : Int32) (hk : 3 ≤ k.toInt ∧ k.toInt ≤ 5) (hd : 0 ≤ d.toInt ∧ d.toInt ≤ 99) (hr : -200 ≤ r.toInt ∧ r.toInt ≤ 19999) (hp : (0 ≤ v3.toInt ∧ v3.toInt ≤ 255) ∧ (0 ≤ v4.toInt ∧ v4.toInt ≤ 255)) (hn2 : ns (fA Sy 0) < 200) :
    ∃ q p : Int32 × St, mX9_notice_53 k d v3 v4 r 1 Sx = some q ∧ mX10_notice_77 z k d v3 v4 r Sy = some p ∧ q.1 = p.1 ∧ Inv q.2 p.2 := by
  have hI' := hI
  obtain ⟨hR, hW, hM, c, nx, ny, hc, hnx, hny, x6, x5, y0, y1, hh'⟩ := hI'
  obtain ⟨e1, hn⟩ := ns_nI hW
  generalize hne : ns (fA Sy 0) = n at e1 hn hn2
  obtain ⟨g, b, ey, hgg, hb⟩ := y_add hz e1 hn2 hny hc y1 y0 k v3 v4 r d (-1) (-1) 1 1
  unfold mX9_notice_53 mX10_notice_77
  rw [if_neg one_ne, x_addS (hR.2.1.trans e1) hn2 hnx hc x5 x6, ob, if_neg (nI_ne1 (by omega)), x_org hn2, ob, ey, ob]
  refine ⟨_, _, rfl, rfl, rfl, ?_⟩
  show Inv (orgX (pushX 5 (nI n) 0 nx c (addX Sx n k v3 v4 r)) n d (-1) (-1)) (sA (pushY g ny c Sy) 0 b)
  rw [← org_one]
  refine inv_add hI hn2 hne hc hnx hny hh' hgg rfl rfl hb (wf_add hW hn2 hne ?_)
  have z100 : (100 : Int32).toInt = 100 := rfl
  have z1 : (1 : Int32).toInt = 1 := rfl
  have zm : (-1 : Int32).toInt = -1 := rfl
  show (0 ≤ k.toInt ∧ k.toInt ≤ 5) ∧ (0 ≤ v3.toInt ∧ v3.toInt ≤ 255) ∧ (0 ≤ v4.toInt ∧ v4.toInt ≤ 255) ∧ (-200 ≤ r.toInt ∧ r.toInt ≤ 19999) ∧ (0 ≤ d.toInt ∧ d.toInt ≤ 99) ∧ (k.toInt < 3 → (0 ≤ r.toInt ∧ 0 ≤ (-1 : Int32).toInt ∧ (-1 : Int32).toInt < nl (fA Sy 0) ∧ 0 ≤ (-1 : Int32).toInt ∧ (-1 : Int32).toInt ≤ 1439)) ∧ (3 ≤ k.toInt → (-1 : Int32).toInt = -1) ∧ (0 ≤ (100 : Int32).toInt ∧ (100 : Int32).toInt ≤ 100) ∧ (1 ≤ (1 : Int32).toInt ∧ v3.toInt + (1 : Int32).toInt ≤ 256) ∧ (1 ≤ (1 : Int32).toInt ∧ v4.toInt + (1 : Int32).toInt ≤ 256)
  refine ⟨by omega, by omega, by omega, by omega, by omega, fun _ => by omega, fun _ => by omega, by omega, by omega, by omega⟩
theorem p_notice {z : Nat} (hz : 10000 ≤ z) : ok_notice z Inv := by
  intro Sx Sy v1 v2 v3 v4 v5 hI
  obtain ⟨e1, hn⟩ := ns_nI hI.2.1
  unfold mX9_notice mX10_notice
  rw [x_in2 (B := 3) (C := 5) rfl rfl, ob, y_in2 (B := 3) (C := 5) rfl rfl, ob]
  by_cases c1 : 3 ≤ v1.toInt ∧ v1.toInt ≤ 5
  · rw [if_pos c1, if_neg one_ne, if_neg one_ne, x_day, ob, y_in2 (B := 0) (C := 99) rfl rfl, ob]
    by_cases c2 : 0 ≤ v2.toInt ∧ v2.toInt ≤ 99
    · rw [if_pos c2, if_neg one_ne, if_neg one_ne, x_pl, ob, y_pl, ob]
      by_cases c3 : (0 ≤ v3.toInt ∧ v3.toInt ≤ 255) ∧ (0 ≤ v4.toInt ∧ v4.toInt ≤ 255)
      · rw [if_pos c3, if_neg one_ne, if_neg one_ne, rd_1 (by omega) (by omega), ob, e1]
        by_cases c4 : ns (fA Sy 0) < 200
        · rw [if_neg (c := nI (ns (fA Sy 0)) = 200) (by rw [show (200 : Int32) = nI 200 from rfl, nI_eq (by omega) (by omega)]; omega)]
          by_cases c5 : v1 = 4
          · rw [if_pos c5, if_pos c5, x_in2 (B := -200) (C := -1) rfl rfl, ob, y_in2 (B := -200) (C := -1) rfl rfl, ob]
            by_cases c6 : -200 ≤ v5.toInt ∧ v5.toInt ≤ -1
            · rw [if_pos c6, if_neg one_ne]
              exact p_not hz hI v1 v2 v3 v4 v5 c1 c2 (by omega) c3 c4
            · rw [if_neg c6, if_pos rfl]
              exact ⟨(-1, Sx), _, by unfold mX9_notice_53; rw [if_pos rfl], rfl, rfl, hI⟩
          · rw [if_neg c5, if_neg c5, x_in2 (B := 0) (C := 9999) rfl rfl, ob, y_in2 (B := 0) (C := 9999) rfl rfl, ob]
            by_cases c6 : 0 ≤ v5.toInt ∧ v5.toInt ≤ 9999
            · rw [if_pos c6, if_neg one_ne]
              exact p_not hz hI v1 v2 v3 v4 v5 c1 c2 (by omega) c3 c4
            · rw [if_neg c6, if_pos rfl]
              exact ⟨(-1, Sx), _, by unfold mX9_notice_53; rw [if_pos rfl], rfl, rfl, hI⟩
        · have n200 : ns (fA Sy 0) = 200 := by omega
          have fu : ∀ t : Int32, (t = 0 ∨ t = 1) → mX9_notice_53 v1 v2 v3 v4 v5 t Sx = some (-1, Sx) := by
            intro t ht
            unfold mX9_notice_53
            rcases ht with rfl | rfl
            · rw [if_pos rfl]
            · rw [if_neg one_ne, x_full (by rw [hI.1.2.1, e1, n200]), ob, if_pos rfl]
          rw [if_pos (c := nI (ns (fA Sy 0)) = 200) (by rw [n200]; rfl)]
          refine ⟨(-1, Sx), _, ?_, rfl, rfl, hI⟩
          by_cases c5 : v1 = 4
          · rw [if_pos c5, x_in2 (B := -200) (C := -1) rfl rfl, ob]
            exact fu _ (by by_cases w : -200 ≤ v5.toInt ∧ v5.toInt ≤ -1 <;> simp [w])
          · rw [if_neg c5, x_in2 (B := 0) (C := 9999) rfl rfl, ob]
            exact fu _ (by by_cases w : 0 ≤ v5.toInt ∧ v5.toInt ≤ 9999 <;> simp [w])
      · rw [if_neg c3, if_pos rfl, if_pos rfl]
        exact ⟨_, _, rfl, rfl, rfl, hI⟩
    · rw [if_neg c2, if_pos rfl, if_pos rfl]
      exact ⟨_, _, rfl, rfl, rfl, hI⟩
  · rw [if_neg c1, if_pos rfl, if_pos rfl]
    exact ⟨_, _, rfl, rfl, rfl, hI⟩
