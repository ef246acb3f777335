/-! PURE: worst -/
theorem x_fill39 (z : Nat) (v : Int32) : ∀ (r k n : Nat) (S : St), k + r = 20 → r < n → ∃ g : Nat → Int32, mJ7_fill_X50_5 z v 20 n (nI k) S = some (sA S 39 g) ∧ ∀ q, q < 20 → g q = if k ≤ q then v else fA S 39 q := by
  intro r
  induction r with
  | zero =>
    intro k n S hk hn
    obtain ⟨n, rfl⟩ : ∃ n', n = n' + 1 := ⟨n - 1, by omega⟩
    rw [mJ7_fill_X50_5]; unfold mJ7_fill_X50_5b
    rw [if_pos (by rw [show (20 : Int32) = nI 20 from rfl, nI_leI (by omega) (by omega)]; omega)]
    exact ⟨fA S 39, by rw [sA_self], fun q hq => by rw [if_neg (by omega)]⟩
  | succ r ih =>
    intro k n S hk hn
    obtain ⟨n, rfl⟩ : ∃ n', n = n' + 1 := ⟨n - 1, by omega⟩
    rw [mJ7_fill_X50_5]; unfold mJ7_fill_X50_5b
    rw [if_neg (by rw [show (20 : Int32) = nI 20 from rfl, nI_leI (by omega) (by omega)]; omega), wr_nI (by omega) (by omega), ob, nI_1]
    obtain ⟨g, e, hg⟩ := ih (k + 1) n (sA S 39 (upd (fA S 39) k v)) (by omega) (by omega)
    refine ⟨g, by rw [e, sA_sA], fun q hq => ?_⟩
    rw [hg q hq, fA_eq, up_e]
    by_cases c1 : k ≤ q
    · rw [if_pos c1]
      by_cases c2 : q = k
      · rw [if_neg (by omega), if_pos c2]
      · rw [if_pos (by omega)]
    · rw [if_neg c1, if_neg (by omega), if_neg (by omega)]
theorem x_misses {a : Nat → Int32} {z : Nat} {u : Int32} (hz : 10000 ≤ z) (hW : WF a) (hu : 0 ≤ u.toInt ∧ u.toInt ≤ 400) {S : St} (hG : Ghd a S) : ∃ S' : St, mX3_addMisses z u S = some S' ∧ Ghd a S' ∧ (∀ p, p < nl a → ES (sm a u.toInt p (nl a)) (fA S' 39 p)) ∧ FrM S S' := by
  obtain ⟨e0, hL⟩ := nl_nI hW
  unfold mX3_addMisses mJ7_fill_X50
  obtain ⟨g, e, hg⟩ := x_fill39 z (-1) 20 0 z S (by omega) (by omega)
  rw [show (0 : Int32) = nI 0 from rfl, e, ob]
  obtain ⟨S', x1, x2, x3, x4⟩ := x_miss2 (z := z) hz hW hu (nl a) 0 z (sA S 39 g) (by omega) (by omega) (hG.m g) (fun p hp => by
    rw [if_neg (by omega), fA_eq, hg p (by omega), if_pos (by omega)]
    exact Or.inl ⟨rfl, rfl⟩)
  exact ⟨S', x1, x2, x3, FrM.tr (show FrM S (sA S 39 g) from ⟨fun _ _ _ _ => rfl, fun j h => fA_ne h⟩) x4⟩
/-- a sum as the reference carries it -/
def EF (o : Option Int) (v f : Int32) : Prop := (o = none ∧ v = 0 ∧ f = 0) ∨ ∃ s, o = some s ∧ v.toInt = s ∧ f = 1
theorem EF.val {o : Option Int} {v f : Int32} (h : EF o v f) : v.toInt = o.getD 0 := by
  rcases h with ⟨rfl, rfl, -⟩ | ⟨s, rfl, h, -⟩
  · rfl
  · exact h
theorem y_worst1 {a : Nat → Int32} {z l : Nat} {u v2 v3 : Int32} (hz : 10000 ≤ z) (hW : WF a) (hl : l < nl a) (hu : 0 ≤ u.toInt ∧ u.toInt ≤ 400) {rc : Int32 → Int32 → Int32 → St → Option (Int32 × St)} : ∀ (r m n : Nat) (v f : Int32) (S : St), m + r = nl a → r < n → fA S 0 = a → EF (sm a u.toInt l m) v f →
    ∃ (v' f' : Int32) (S' : St), mX10_worst_40 z rc u v2 v3 (nI l) n v f (nI m) S = mX10_worst_143 z rc u v2 v3 (nI l) v' f' S' ∧ EF (sm a u.toInt l (nl a)) v' f' ∧ FrD S S' := by
  obtain ⟨e0, hL⟩ := nl_nI hW
  intro r
  induction r with
  | zero =>
    intro m n v f S hm hn h0 hE
    obtain ⟨n, rfl⟩ : ∃ n', n = n' + 1 := ⟨n - 1, by omega⟩
    have : m = nl a := by omega
    subst this
    rw [mX10_worst_40]; unfold mX10_worst_40b
    rw [rd_0 (by omega) (by omega), ob, h0, e0, if_pos (by rw [leI (by omega) (by omega)]; omega)]
    exact ⟨v, f, S, rfl, hE, FrD.rf S⟩
  | succ r ih =>
    intro m n v f S hm hn h0 hE
    obtain ⟨n, rfl⟩ : ∃ n', n = n' + 1 := ⟨n - 1, by omega⟩
    rw [mX10_worst_40]; unfold mX10_worst_40b
    rw [rd_0 (by omega) (by omega), ob, h0, e0, if_neg (by rw [leI (by omega) (by omega)]; omega), nI_1]
    by_cases cm : m = l
    · rw [if_pos (by rw [cm])]
      exact ih (m + 1) n v f S (by omega) (by omega) h0 (by subst cm; rw [sm_skip]; exact hE)
    · rw [if_neg (fun h => cm (by rwa [nI_eq (by omega) (by omega)] at h))]
      have pair : ∃ (v' f' : Int32) (S' : St), mX10_worst_87 z rc (mX10_worst_40 z rc u v2 v3 (nI l) n) u v2 v3 (nI l) v f (nI m) (nI (mn l m)) (nI (mxx l m)) S = mX10_worst_143 z rc u v2 v3 (nI l) v' f' S' ∧ EF (sm a u.toInt l (nl a)) v' f' ∧ FrD S S' := by
        have b1 : mn l m < 20 := by unfold mn; split <;> omega
        have b2 : mxx l m < 20 := by unfold mxx; split <;> omega
        obtain ⟨g, S1, eg, fg, hg⟩ := y_cross (S := S) (k := mn l m) (l := mxx l m) hz hW b1 b2 hu h0
        unfold mX10_worst_87
        rw [eg, ob, nI_1]
        dsimp only
        have h01 : fA S1 0 = a := (fg.2 0).trans h0
        rcases hg with ⟨g0, h⟩ | ⟨g0, q, q1, q2, q3, q4, q5⟩
        · rw [g0, if_pos rfl]
          obtain ⟨v', f', S', x1, x2, x3⟩ := ih (m + 1) n v f S1 (by omega) (by omega) h01 (by rw [sm_non cm (mss_none h)]; exact hE)
          exact ⟨v', f', S', x1, x2, fg.tr x3⟩
        · rw [g0, if_neg one_ne, q3]
          obtain ⟨b1, b2, b3, b4, b5, b6⟩ := cr_ok hW _ _ q q1
          obtain ⟨r1, S2, y1, h1, l1⟩ := y_cor (S := S1) hz h01 hW b1
          rw [y1, ob]
          dsimp only
          rw [l1.i 4, q4]
          obtain ⟨r2, S3, y2, h2, l2⟩ := y_cor (S := S2) hz ((l1.a 0).trans h01) hW b2
          rw [y2, ob]
          dsimp only
          have g1 := (cor_b hW b1).2 (fun w => by rw [← wtB_iff, b3] at w; cases w)
          have g2 := (cor_b hW b2).2 (fun w => by rw [← wtB_iff, b4] at w; cases w)
          have md : (r1 - r2).toInt = cor a q.1 - cor a q.2.1 := by rw [ti_sub (by omega) (by omega), h1, h2]
          have h03 : fA S3 0 = a := (l2.a 0).trans ((l1.a 0).trans h01)
          have fr : FrD S S3 := (fg.tr l1.d).tr l2.d
          have go : ∀ c : Int32, c.toInt = (if 0 ≤ cor a q.1 - cor a q.2.1 then cor a q.1 - cor a q.2.1 else -(cor a q.1 - cor a q.2.1)) → ∃ (v' f' : Int32) (S' : St), mX10_worst_131 z rc (mX10_worst_40 z rc u v2 v3 (nI l) n) u v2 v3 (nI l) (nI m) v c S3 = mX10_worst_143 z rc u v2 v3 (nI l) v' f' S' ∧ EF (sm a u.toInt l (nl a)) v' f' ∧ FrD S S' := by
            intro c hc
            unfold mX10_worst_131
            rw [nI_1]
            have vv := hE.val
            have vb : 0 ≤ v.toInt ∧ v.toInt ≤ 20451 * 20 := by
              cases hs : sm a u.toInt l m with
              | none => rw [hs] at vv; rw [vv]; show (0 : Int) ≤ 0 ∧ (0 : Int) ≤ _; omega
              | some s => have := sm_b hW m hs; rw [hs] at vv; rw [vv]; show 0 ≤ s ∧ s ≤ _; omega
            have cb : 0 ≤ c.toInt ∧ c.toInt ≤ 20451 := by rw [hc]; split <;> omega
            obtain ⟨v', f', S', x1, x2, x3⟩ := ih (m + 1) n (v + c) 1 S3 (by omega) (by omega) h03 (by
              rw [sm_som cm (mss_some q1 q2)]
              exact Or.inr ⟨_, rfl, by rw [ti_add (by omega) (by omega), vv, hc], rfl⟩)
            exact ⟨v', f', S', x1, x2, fr.tr x3⟩
          by_cases c : (0 : Int32) ≤ r1 - r2
          · rw [if_pos c]; rw [ge0, md] at c
            exact go _ (by rw [if_pos c]; exact md)
          · rw [if_neg c]; rw [ge0, md] at c
            refine go _ ?_
            rw [if_neg c, Int32.toInt_neg, md]
            exact Int.bmod_eq_of_le (by omega) (by omega)
      by_cases cl : l ≤ m
      · have e1 : mn l m = l := by unfold mn; rw [if_pos cl]
        have e2 : mxx l m = m := by unfold mxx; rw [if_pos cl]
        rw [e1, e2] at pair
        have li : nI l ≤ nI m := (leI (by omega) (by omega)).mpr cl
        unfold mX10_worst_73
        rw [if_pos li, if_pos li]; exact pair
      · have e1 : mn l m = m := by unfold mn; rw [if_neg cl]
        have e2 : mxx l m = l := by unfold mxx; rw [if_neg cl]
        rw [e1, e2] at pair
        have li : ¬ nI l ≤ nI m := fun h => cl ((leI (by omega) (by omega)).mp h)
        unfold mX10_worst_73
        rw [if_neg li, if_neg li]; exact pair
theorem worst_both {a : Nat → Int32} {z : Nat} {u : Int32} (hz : 10000 ≤ z) (hW : WF a) (hu : 0 ≤ u.toInt ∧ u.toInt ≤ 400) {X : St} (hX : fI X 1 = a 0) (hE : ∀ p, p < nl a → ES (sm a u.toInt p (nl a)) (fA X 39 p)) : ∀ (r l n m : Nat) (b v w : Int32) (S : St), l + r = nl a → r < n → r < m → fA S 0 = a → ((b = -1 ∧ v = -1) ∨ (0 ≤ b.toInt ∧ v = w ∧ 0 ≤ w.toInt)) →
    ∃ (q : Int32) (S' : St), mX3_lineThatMissesMost_6 z X n v b (nI l) = some q ∧ mX10_worst_20 z u m b w (nI l) S = some (q, S') ∧ FrD S S' := by
  obtain ⟨e0, hL⟩ := nl_nI hW
  intro r
  induction r with
  | zero =>
    intro l n m b v w S hl hn hm h0 hb
    obtain ⟨n, rfl⟩ : ∃ n', n = n' + 1 := ⟨n - 1, by omega⟩
    obtain ⟨m, rfl⟩ : ∃ n', m = n' + 1 := ⟨m - 1, by omega⟩
    have : l = nl a := by omega
    subst this
    rw [mX3_lineThatMissesMost_6, mX10_worst_20]; unfold mX3_lineThatMissesMost_6b mX10_worst_20b
    rw [rd_0 (by omega) (by omega), ob, h0, hX, e0, if_pos (by rw [leI (by omega) (by omega)]; omega), if_pos (by rw [leI (by omega) (by omega)]; omega)]
    exact ⟨b, S, rfl, rfl, FrD.rf S⟩
  | succ r ih =>
    intro l n m b v w S hl hn hm h0 hb
    obtain ⟨n, rfl⟩ : ∃ n', n = n' + 1 := ⟨n - 1, by omega⟩
    obtain ⟨m, rfl⟩ : ∃ n', m = n' + 1 := ⟨m - 1, by omega⟩
    have m1 : (-1 : Int32).toInt = -1 := rfl
    obtain ⟨v', f', S1, y1, y2, y3⟩ := y_worst1 (z := z) (l := l) (v2 := b) (v3 := w) hz hW (by omega) hu (rc := mX10_worst_20 z u m) (nl a) 0 z 0 0 S (by omega) (by omega) h0 (Or.inl ⟨rfl, rfl, rfl⟩)
    have h01 : fA S1 0 = a := (y3.2 0).trans h0
    rw [mX3_lineThatMissesMost_6, mX10_worst_20]; unfold mX3_lineThatMissesMost_6b mX10_worst_20b
    rw [rd_0 (by omega) (by omega), ob, h0, hX, e0, if_neg (by rw [leI (by omega) (by omega)]; omega), if_neg (by rw [leI (by omega) (by omega)]; omega), rd_nI (by omega) (by omega), ob, ob]
    rw [show (0 : Int32) = nI 0 from rfl] at y1 ⊢
    rw [y1, nI_1]
    unfold mX10_worst_143
    rw [nI_1]
    have keep : ∀ (b v w : Int32), ((b = -1 ∧ v = -1) ∨ (0 ≤ b.toInt ∧ v = w ∧ 0 ≤ w.toInt)) → ∃ (q : Int32) (S' : St), mX3_lineThatMissesMost_6 z X n v b (nI (l + 1)) = some q ∧ mX10_worst_20 z u m b w (nI (l + 1)) S1 = some (q, S') ∧ FrD S S' := fun b v w h => by
      obtain ⟨q, S', x1, x2, x3⟩ := ih (l + 1) n m b v w S1 (by omega) (by omega) (by omega) h01 h
      exact ⟨q, S', x1, x2, y3.tr x3⟩
    rcases hE l (by omega) with ⟨h1, h2⟩ | ⟨s, h1, h2⟩
    · rcases y2 with ⟨-, -, f0⟩ | ⟨t, k1, -, -⟩
      · rw [f0, if_pos (c := (0 : Int32) = 0) rfl, h2, if_pos]
        · exact keep b v w hb
        · rw [i_le]
          rcases hb with ⟨-, hv⟩ | ⟨-, hv, hw⟩
          · rw [hv]; exact Int.le_refl _
          · rw [hv, m1]; omega
      · rw [h1] at k1; cases k1
    · rcases y2 with ⟨k1, -, -⟩ | ⟨t, k1, k2, k3⟩
      · rw [h1] at k1; cases k1
      · rw [h1] at k1; cases k1
        have sb := sm_b hW _ h1
        have ev : v' = fA X 39 l := by rw [i_eq, h2, k2]
        rw [k3, if_neg (c := (1 : Int32) = 0) one_ne]
        subst ev
        have new : ((nI l = -1 ∧ fA X 39 l = -1) ∨ (0 ≤ (nI l).toInt ∧ fA X 39 l = fA X 39 l ∧ 0 ≤ (fA X 39 l).toInt)) := Or.inr ⟨by rw [nI_ti (by omega)]; omega, rfl, by omega⟩
        rcases hb with ⟨rfl, rfl⟩ | ⟨hb0, rfl, hw⟩
        · rw [if_pos (c := (-1 : Int32) < 0) (by decide), if_neg (by rw [i_le, m1]; omega)]
          exact keep _ _ _ new
        · rw [if_neg (c := b < 0) (by rw [i_lt]; show ¬ b.toInt < 0; omega)]
          by_cases c : v < fA X 39 l
          · rw [if_pos c, if_neg (by rw [i_lt] at c; rw [i_le]; omega)]
            exact keep _ _ _ new
          · rw [if_neg c, if_pos (by rw [i_lt] at c; rw [i_le]; omega)]
            exact keep _ _ _ (Or.inr ⟨hb0, rfl, hw⟩)
theorem p_worst {z : Nat} (hz : 10000 ≤ z) : ok_worst z Inv := by
  intro Sx Sy v1 hI
  obtain ⟨e0, hL⟩ := nl_nI hI.2.1
  unfold mX9_worst mX10_worst
  rw [x_rch, ob, y_in2 (B := 0) (C := 400) rfl rfl, ob]
  by_cases c4 : 0 ≤ v1.toInt ∧ v1.toInt ≤ 400
  · rw [if_pos c4, if_neg one_ne, if_neg one_ne]
    obtain ⟨X, ex, hG, px⟩ := x_gather hz hI.2.1 hI.1
    obtain ⟨X', ex', hG', hE, fm⟩ := x_misses hz hI.2.1 c4 hG
    rw [ex, ob, ex', ob]
    obtain ⟨q, Y, w1, w2, w3⟩ := worst_both (z := z) hz hI.2.1 c4 hG'.1.1.1 hE (nl (fA Sy 0)) 0 z z (-1) (-1) 0 Sy (by omega) (by omega) (by omega) rfl (Or.inl ⟨rfl, rfl⟩)
    have w1' : mX3_lineThatMissesMost z X' = some q := w1
    have w2' : mX10_worst_20 z v1 z (-1) 0 0 Sy = some (q, Y) := w2
    rw [w1', ob, w2']
    refine ⟨_, _, rfl, rfl, rfl, hI.keep (px.tr ⟨fun k _ => fm.1 k (by omega) (by omega) (by omega), fun k _ _ _ => fm.2 k (by omega)⟩) w3.py⟩
  · rw [if_neg c4, if_pos rfl, if_pos rfl]
    exact ⟨_, _, rfl, rfl, rfl, hI⟩
