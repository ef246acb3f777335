/-! PURE: the sheet drawn by the class -/
theorem x_dist1 {a : Nat → Int32} {z q n : Nat} {d : Int} {S : St} {h : Sh} (hW : WF a) (H : SI a d q h) (hX : XS a d q S h) (hn : n < ns a) : ∀ (r i m : Nat) (v : Int32), i + r = h.1 → r < m → v.toInt = dst a h n i → ∃ w : Int32, mX5_distanceToShown_5 z S (nI n) m v (nI i) = some w ∧ w.toInt = dst a h n h.1 := by
  obtain ⟨e1, hN⟩ := ns_nI hW
  have hc := SI_c H
  intro r
  induction r with
  | zero =>
    intro i m v hi hm hv
    obtain ⟨m, rfl⟩ : ∃ n', m = n' + 1 := ⟨m - 1, by omega⟩
    have : i = h.1 := by omega
    subst this
    rw [mX5_distanceToShown_5]; unfold mX5_distanceToShown_5b
    rw [hX.2.2.2.1, if_pos (by rw [leI (by omega) (by omega)]; omega)]
    exact ⟨v, rfl, hv⟩
  | succ r ih =>
    intro i m v hi hm hv
    obtain ⟨m, rfl⟩ : ∃ n', m = n' + 1 := ⟨m - 1, by omega⟩
    obtain ⟨u, eu, hu⟩ := x_apart hW hX.1.1 hn (H.2.1 i (by omega)).1
    have de : dst a h n (i + 1) = if frI a n (h.2.1 i) < dst a h n i then frI a n (h.2.1 i) else dst a h n i := rfl
    rw [mX5_distanceToShown_5]; unfold mX5_distanceToShown_5b mJ9_min
    rw [hX.2.2.2.1, if_neg (by rw [leI (by omega) (by omega)]; omega), rd_nI (by omega) (by omega), ob, hX.2.2.2.2.1 i (by omega), eu, ob, nI_1]
    by_cases c : u < v
    · rw [if_pos c, ob]; rw [i_lt, hu, hv] at c
      exact ih (i + 1) m u (by omega) (by omega) (by rw [de, if_pos c]; exact hu)
    · rw [if_neg c, ob]; rw [i_lt, hu, hv] at c
      exact ih (i + 1) m v (by omega) (by omega) (by rw [de, if_neg c]; exact hv)
theorem x_dist {a : Nat → Int32} {z q n : Nat} {d : Int} {S : St} {h : Sh} (hz : 10000 ≤ z) (hW : WF a) (H : SI a d q h) (hX : XS a d q S h) (hn : n < ns a) : ∃ w : Int32, mX5_distanceToShown z S (nI n) = some w ∧ w.toInt = dst a h n h.1 := by
  have hc := SI_c H
  have hN := (ns_nI hW).2
  exact x_dist1 (z := z) hW H hX hn h.1 0 z 1000000 (by omega) (by omega) rfl
def encB (o : Option (Nat × Int)) (b v : Int32) : Prop := (o = none ∧ b = -1 ∧ v = -1) ∨ ∃ p, o = some p ∧ b = nI p.1 ∧ v.toInt = p.2
theorem x_far1 {a : Nat → Int32} {z q : Nat} {d : Int} {S : St} {h : Sh} (hz : 10000 ≤ z) (hW : WF a) (H : SI a d q h) (hX : XS a d q S h) : ∀ (r n m : Nat) (b v : Int32), n + r = ns a → r < m → encB (bst a d q h n) b v →
    ∃ b' v' : Int32, mX5_showFarthest_6 z m b v (nI (fc a d q n)) S = mX5_showFarthest_60 z b' S ∧ encB (bst a d q h (ns a)) b' v' := by
  obtain ⟨e1, hN⟩ := ns_nI hW
  have fN := fc_le a d q (ns a)
  intro r
  induction r with
  | zero =>
    intro n m b v hn hm hb
    obtain ⟨m, rfl⟩ : ∃ n', m = n' + 1 := ⟨m - 1, by omega⟩
    have : n = ns a := by omega
    subst this
    rw [mX5_showFarthest_6]; unfold mX5_showFarthest_6b
    rw [hX.2.1, if_pos (by rw [leI (by omega) (by omega)]; omega)]
    exact ⟨b, v, rfl, hb⟩
  | succ r ih =>
    intro n m b v hn hm hb
    have be : bst a d q h (n + 1) = if fnB a d q n = true ∧ h.2.2 n = 6 then (match bst a d q h n with | none => some (n, dst a h n h.1) | some p => if p.2 < dst a h n h.1 then some (n, dst a h n h.1) else some p) else bst a d q h n := rfl
    cases hf : fnB a d q n with
    | false =>
      have := ih (n + 1) m b v (by omega) (by omega) (by rw [be, if_neg (fun x => by rw [hf] at x; cases x.1)]; exact hb)
      rw [fc_n hf] at this; exact this
    | true =>
      obtain ⟨m, rfl⟩ : ∃ n', m = n' + 1 := ⟨m - 1, by omega⟩
      have fl := fc_lt hf (show n < ns a by omega)
      rw [mX5_showFarthest_6]; unfold mX5_showFarthest_6b
      rw [hX.2.1, if_neg (by rw [leI (by omega) (by omega)]; omega), rd_nI (by omega) (by omega), ob, hX.2.2.1 n (by omega) hf, rd_nI (by omega) (by omega), ob, hX.2.2.2.2.2 n (by omega) hf, nI_1, ← fc_s hf]
      by_cases c6 : h.2.2 n = 6
      · rw [if_pos c6]
        obtain ⟨w, ew, hw⟩ := x_dist (z := z) hz hW H hX (n := n) (by omega)
        have db := dst_b hW H (n := n) (by omega) h.1 (Nat.le_refl _)
        rw [if_pos ⟨hf, c6⟩] at be
        rw [ew, ob]
        have m1 : (-1 : Int32).toInt = -1 := rfl
        rcases hb with ⟨b1, b2, b3⟩ | ⟨p, b1, b2, b3⟩
        · rw [b1] at be
          rw [if_neg (by rw [i_le, b3, m1]; omega)]
          exact ih (n + 1) m (nI n) w (by omega) (by omega) (by rw [be]; exact Or.inr ⟨_, rfl, rfl, hw⟩)
        · rw [b1] at be
          dsimp only at be
          by_cases c : w ≤ v
          · rw [if_pos c]; rw [i_le, hw, b3] at c
            exact ih (n + 1) m b v (by omega) (by omega) (by rw [be, if_neg (by omega)]; exact Or.inr ⟨p, rfl, b2, b3⟩)
          · rw [if_neg c]; rw [i_le, hw, b3] at c
            exact ih (n + 1) m (nI n) w (by omega) (by omega) (by rw [be, if_pos (by omega)]; exact Or.inr ⟨_, rfl, rfl, hw⟩)
      · rw [if_neg c6]
        exact ih (n + 1) m b v (by omega) (by omega) (by rw [be, if_neg (fun x => c6 x.2)]; exact hb)
theorem x_farS {a : Nat → Int32} {z q : Nat} {d : Int} {S : St} {h : Sh} (hz : 10000 ≤ z) (hW : WF a) (H : SI a d q h) (hX : XS a d q S h) : ∃ S', mX5_showFarthest z S = some S' ∧ XS a d q S' (farS a d q h) ∧ FrS S S' := by
  obtain ⟨e1, hN⟩ := ns_nI hW
  unfold mX5_showFarthest
  obtain ⟨b, v, e, hb⟩ := x_far1 (z := z) hz hW H hX (ns a) 0 z (-1) (-1) (by omega) (by omega) (Or.inl ⟨rfl, rfl, rfl⟩)
  have e' : mX5_showFarthest_6 z z (-1) (-1) 0 S = mX5_showFarthest_60 z b S := e
  rw [e']
  unfold mX5_showFarthest_60 farS
  rcases hb with ⟨b1, b2, b3⟩ | ⟨p, b1, b2, b3⟩
  · rw [if_pos b2, b1]
    exact ⟨S, rfl, hX, FrS.rf S⟩
  · obtain ⟨p1, p2, p3, -⟩ := bst_ok hW H (ns a) (Nat.le_refl _) b1
    obtain ⟨S1, x1, x2, x3⟩ := x_addSh (r := 2) hW H hX p1 p2 p3
    rw [b2, if_neg (nI_m1 (by omega)), x1, ob, b1]
    exact ⟨S1, rfl, x2, x3⟩
theorem x_it {a : Nat → Int32} {z q den : Nat} {d : Int} (hz : 10000 ≤ z) (hW : WF a) (hd : den ≤ 6) : ∀ (r i m : Nat) (S : St) (h : Sh), i + r = den → r < m → SI a d q h → XS a d q S h →
    ∃ S', mX5_draw_30 z (nI den) m (nI i) S = some S' ∧ XS a d q S' (itS a d q den r h) ∧ FrS S S' := by
  obtain ⟨e1, hN⟩ := ns_nI hW
  intro r
  induction r with
  | zero =>
    intro i m S h hi hm H hX
    obtain ⟨m, rfl⟩ : ∃ n', m = n' + 1 := ⟨m - 1, by omega⟩
    rw [mX5_draw_30]; unfold mX5_draw_30b
    rw [if_pos (by rw [leI (by omega) (by omega)]; omega)]
    exact ⟨S, rfl, hX, FrS.rf S⟩
  | succ r ih =>
    intro i m S h hi hm H hX
    obtain ⟨m, rfl⟩ : ∃ n', m = n' + 1 := ⟨m - 1, by omega⟩
    have hc := SI_c H
    have li : nI den ≤ nI h.1 ↔ den ≤ h.1 := leI (by omega) (by omega)
    show ∃ S', _ = some S' ∧ XS a d q S' (itS a d q den r (stpS a d q den h)) ∧ FrS S S'
    have HS := stpS_ok (den := den) hW H
    unfold stpS at HS ⊢
    rw [mX5_draw_30]; unfold mX5_draw_30b
    rw [if_neg (by rw [leI (by omega) (by omega)]; omega), hX.2.2.2.1, nI_1]
    by_cases c : den ≤ h.1
    · rw [if_pos c] at HS
      rw [if_pos (li.mpr c), if_pos c]
      exact ih (i + 1) m S h (by omega) (by omega) HS hX
    · rw [if_neg c] at HS
      rw [if_neg (fun x => c (li.mp x)), if_neg c]
      obtain ⟨S1, x1, x2, x3⟩ := x_farS (z := z) hz hW H hX
      rw [x1, ob]
      obtain ⟨S', y1, y2, y3⟩ := ih (i + 1) m S1 _ (by omega) (by omega) HS x2
      exact ⟨S', y1, y2, x3.tr y3⟩
/-- the class's sheet -/
theorem x_sheet {a : Nat → Int32} {z q den : Nat} {v : Int32} (hz : 10000 ≤ z) (hW : WF a) (hq : q < 256) (hd : den ≤ 6) {S : St} (hR : Rel 0 S a) : ∃ S', mX5_draw z v (nI den) (nI q) S = some S' ∧ XS a v.toInt q S' (shE a v.toInt q den) ∧ PX S S' := by
  obtain ⟨e1, hN⟩ := ns_nI hW
  unfold mX5_draw mX7_measure mX5_findAll mX5_showAlways
  obtain ⟨S1, f1, f2, f3, f4, -⟩ := x_measL hz hW (ns a) 0 z S (by omega) (by omega) hR
  have hM : Msd a S1 := ⟨hR.of (by omega) (fun j _ => f2 j) (fun j _ h => f3 j (by omega)), fun i hi => f4 i (by omega) hi⟩
  have fr1 : FrS S1 (sI S1 13 (nI 0)) := ⟨fun j h _ => by rw [fI_sI, if_neg h], fun _ _ _ _ => rfl⟩
  rw [show (0 : Int32) = nI 0 from rfl, f1, ob]
  obtain ⟨S2, g1, g2, g3, g4⟩ := x_all1 (z := z) (v := v) hW hq (ns a) 0 z (sI S1 13 (nI 0)) (by omega) (by omega) (hM.s fr1) rfl (fun k hk => by omega)
  rw [g1, ob]
  have fr2 : FrS S2 (sI S2 14 (nI 0)) := ⟨fun j _ h => by rw [fI_sI, if_neg h], fun _ _ _ _ => rfl⟩
  have X0 : XS a v.toInt q (sI S2 14 (nI 0)) (alF a v.toInt q 0) := ⟨((hM.s fr1).s g4).s fr2, by rw [fI_sI, if_neg (by omega)]; exact g2, fun k hk hf => (g3 k hk hf).1, rfl, fun i hi => absurd hi (Nat.not_lt_zero _), fun k hk hf => (g3 k hk hf).2⟩
  obtain ⟨S3, k1, k2, k3⟩ := x_alw1 (z := z) hz hW (ns a) 0 z (sI S2 14 (nI 0)) (by omega) (by omega) X0
  have k1' : mX5_showAlways_2 z v z (nI 0) (sI S2 14 (nI 0)) = some S3 := k1
  rw [k1', ob]
  obtain ⟨S4, m1, m2, m3⟩ := x_sho (z := z) hz hW k2
  rw [m1, ob]
  obtain ⟨S5, n1, n2, n3⟩ := x_it (z := z) hz hW hd den 0 z S4 _ (by omega) (by omega) sh2_ok m2
  refine ⟨S5, n1, n2, ?_⟩
  have all := ((((fr1.tr g4).tr fr2).tr k3).tr m3).tr n3
  exact PX.tr ⟨fun k _ => f2 k, fun k h _ _ => f3 k h⟩ all.px
