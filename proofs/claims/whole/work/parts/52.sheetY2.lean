/-! PURE: the sheet drawn by the reference; shown, why -/
theorem y_sh53 {a : Nat → Int32} {z q n : Nat} {v v2 v3 : Int32} (hz : 10000 ≤ z) (hW : WF a) (hn : n < ns a) (hf : fnB a v.toInt q n = true) {rc : Int32 → Int32 → St → Option St} {S : St} (h0 : fA S 0 = a) :
    ∃ S', mX10_sheet_53 z rc v v2 v3 (encN (sho a v.toInt q n)) (nI n) S = rc (encN (sho a v.toInt q (n + 1))) (nI (n + 1)) S' ∧ Lo S S' := by
  obtain ⟨e1, hN⟩ := ns_nI hW
  have e : sho a v.toInt q (n + 1) = (match sho a v.toInt q n with | none => some n | some m => if cor a m ≤ cor a n then some m else some n) := by
    conv => lhs; unfold sho
    rw [hf]; rfl
  unfold mX10_sheet_53
  cases hs : sho a v.toInt q n with
  | none =>
    rw [hs] at e
    rw [e, show encN none = (-1 : Int32) from rfl, if_pos (by decide), nI_1]
    exact ⟨S, rfl, Lo.rf S⟩
  | some k =>
    rw [hs] at e
    dsimp only at e
    obtain ⟨k1, k2⟩ := sho_ok n hs
    obtain ⟨r1, S1, y1, g1, l1⟩ := y_cor (S := S) hz h0 hW hn
    obtain ⟨r2, S2, y2, g2, l2⟩ := y_cor (S := S1) hz ((l1.a 0).trans h0) hW (n := k) (by omega)
    rw [show encN (some k) = nI k from rfl, if_neg (by rw [lt0, nI_ti (by omega)]; omega), y1, ob]
    dsimp only
    rw [y2, ob, nI_1]
    dsimp only
    by_cases c : r2 ≤ r1
    · rw [if_pos c]; rw [i_le, g1, g2] at c
      rw [e, if_pos c]
      exact ⟨S2, rfl, l1.tr l2⟩
    · rw [if_neg c]; rw [i_le, g1, g2] at c
      rw [e, if_neg c]
      exact ⟨S2, rfl, l1.tr l2⟩
theorem y_sh11 {a : Nat → Int32} {z q : Nat} {v v2 : Int32} (hz : 10000 ≤ z) (hW : WF a) (hq : q < 256) : ∀ (r n m : Nat) (S : St), n + r = ns a → r < m → YS a S (alF a v.toInt q n) →
    ∃ S', mX10_sheet_11 z v v2 (nI q) m (encN (sho a v.toInt q n)) (nI n) S = mX10_sheet_83 z v v2 (nI q) (encN (sho a v.toInt q (ns a))) S' ∧ YS a S' (alF a v.toInt q (ns a)) ∧ FrT S S' := by
  obtain ⟨e1, hN⟩ := ns_nI hW
  intro r
  induction r with
  | zero =>
    intro n m S hn hm hY
    obtain ⟨m, rfl⟩ : ∃ n', m = n' + 1 := ⟨m - 1, by omega⟩
    have : n = ns a := by omega
    subst this
    rw [mX10_sheet_11]; unfold mX10_sheet_11b
    rw [rd_1 (by omega) (by omega), ob, hY.1, e1, if_pos (by rw [leI (by omega) (by omega)]; omega)]
    exact ⟨S, rfl, hY, FrT.rf S⟩
  | succ r ih =>
    intro n m S hn hm hY
    obtain ⟨m, rfl⟩ : ∃ n', m = n' + 1 := ⟨m - 1, by omega⟩
    obtain ⟨S1, es, l1⟩ := y_found hz hY.1 hW (n := n) (by omega) hq v
    have Y1 := hY.lo l1
    rw [mX10_sheet_11]; unfold mX10_sheet_11b
    rw [rd_1 (by omega) (by omega), ob, hY.1, e1, if_neg (by rw [leI (by omega) (by omega)]; omega), es, ob, nI_1]
    dsimp only
    rw [if01]
    cases hf : fnB a v.toInt q n with
    | false =>
      have e : sho a v.toInt q (n + 1) = sho a v.toInt q n := by
        conv => lhs; unfold sho
        rw [hf]; rfl
      rw [if_neg Bool.false_ne_true, ← e]
      obtain ⟨S', x1, x2, x3⟩ := ih (n + 1) m S1 (by omega) (by omega) (by unfold alF; rw [hf]; exact Y1)
      exact ⟨S', x1, x2, l1.t.tr x3⟩
    | true =>
      rw [if_pos rfl]
      obtain ⟨S2, ea, l2⟩ := y_alw (z := z) (v := v) hz hW (n := n) (by omega) Y1.1
      have Y2 := Y1.lo l2
      rw [ea, ob]
      dsimp only
      rw [if01]
      obtain ⟨HI, h6⟩ := alF_ok (a := a) (d := v.toInt) (q := q) n (by omega)
      cases ha : alw a v.toInt n with
      | false =>
        rw [if_neg Bool.false_ne_true]
        obtain ⟨S3, e3, l3⟩ := y_sh53 (z := z) (v := v) (v2 := v2) (v3 := nI q) (rc := mX10_sheet_11 z v v2 (nI q) m) hz hW (by omega) hf Y2.1
        rw [e3]
        obtain ⟨S', x1, x2, x3⟩ := ih (n + 1) m S3 (by omega) (by omega) (by unfold alF; rw [hf, ha]; exact Y2.lo l3)
        exact ⟨S', x1, x2, ((l1.t.tr l2.t).tr l3.t).tr x3⟩
      | true =>
        rw [if_pos rfl]
        obtain ⟨S3, y1, y2, y3⟩ := y_lists (r := 0) hW HI Y2 (by omega) (h6 n (Nat.le_refl _))
        rw [y1, ob]
        obtain ⟨S4, e4, l4⟩ := y_sh53 (z := z) (v := v) (v2 := v2) (v3 := nI q) (rc := mX10_sheet_11 z v v2 (nI q) m) hz hW (by omega) hf y2.1
        rw [e4]
        obtain ⟨S', x1, x2, x3⟩ := ih (n + 1) m S4 (by omega) (by omega) (by unfold alF; rw [hf, ha]; exact y2.lo l4)
        exact ⟨S', x1, x2, (((l1.t.tr l2.t).tr y3).tr l4.t).tr x3⟩
theorem y_sh181 {a : Nat → Int32} {z q n : Nat} {d : Int} {v v2 v3 v6 v7 : Int32} {S : St} {h : Sh} (hW : WF a) (H : SI a d q h) (hY : YS a S h) (hn : n < ns a) {rc : Int32 → St → Option St} {rc2 : Int32 → Int32 → Int32 → St → Option St} : ∀ (r i m : Nat) (u : Int32), i + r = h.1 → r < m → u.toInt = dst a h n i →
    ∃ w : Int32, mX10_sheet_181 z rc rc2 v v2 v3 v6 v7 (nI n) m u (nI i) S = mX10_sheet_234 z rc rc2 v v2 v3 v6 v7 (nI n) w S ∧ w.toInt = dst a h n h.1 := by
  obtain ⟨e1, hN⟩ := ns_nI hW
  have hc := SI_c H
  intro r
  induction r with
  | zero =>
    intro i m u hi hm hu
    obtain ⟨m, rfl⟩ : ∃ n', m = n' + 1 := ⟨m - 1, by omega⟩
    have : i = h.1 := by omega
    subst this
    rw [mX10_sheet_181]; unfold mX10_sheet_181b
    rw [hY.2.1, if_pos (by rw [leI (by omega) (by omega)]; omega)]
    exact ⟨u, rfl, hu⟩
  | succ r ih =>
    intro i m u hi hm hu
    obtain ⟨m, rfl⟩ : ∃ n', m = n' + 1 := ⟨m - 1, by omega⟩
    obtain ⟨w, ew, hw⟩ := y_far (S := S) hW hY.1 hn (H.2.1 i (by omega)).1
    have de : dst a h n (i + 1) = if frI a n (h.2.1 i) < dst a h n i then frI a n (h.2.1 i) else dst a h n i := rfl
    rw [mX10_sheet_181]; unfold mX10_sheet_181b
    rw [hY.2.1, if_neg (by rw [leI (by omega) (by omega)]; omega), rd_nI (by omega) (by omega), ob, (hY.2.2 i (by omega)).1, ew, ob, nI_1]
    by_cases c : u ≤ w
    · rw [if_pos c]; rw [i_le, hu, hw] at c
      exact ih (i + 1) m u (by omega) (by omega) (by rw [de, if_neg (by omega)]; exact hu)
    · rw [if_neg c, ob, ew, ob]; rw [i_le, hu, hw] at c
      exact ih (i + 1) m w (by omega) (by omega) (by rw [de, if_pos (by omega)]; exact hw)
def encY (o : Option (Nat × Int)) (b v : Int32) : Prop := (o = none ∧ b = -1) ∨ ∃ p, o = some p ∧ b = nI p.1 ∧ v.toInt = p.2
theorem y_sh130 {a : Nat → Int32} {z q : Nat} {v v2 : Int32} {h : Sh} (hz : 10000 ≤ z) (hW : WF a) (hq : q < 256) (H : SI a v.toInt q h) (h1 : 1 ≤ h.1) {rc : Int32 → St → Option St} : ∀ (r n m : Nat) (b w : Int32) (S : St), n + r = ns a → r < m → YS a S h → encY (bst a v.toInt q h n) b w →
    ∃ (b' w' : Int32) (S' : St), mX10_sheet_130 z rc v v2 (nI q) m b w (nI n) S = mX10_sheet_263 z rc v v2 (nI q) b' S' ∧ encY (bst a v.toInt q h (ns a)) b' w' ∧ YS a S' h ∧ FrT S S' := by
  obtain ⟨e1, hN⟩ := ns_nI hW
  have hc := SI_c H
  intro r
  induction r with
  | zero =>
    intro n m b w S hn hm hY hb
    obtain ⟨m, rfl⟩ : ∃ n', m = n' + 1 := ⟨m - 1, by omega⟩
    have : n = ns a := by omega
    subst this
    rw [mX10_sheet_130]; unfold mX10_sheet_130b
    rw [rd_1 (by omega) (by omega), ob, hY.1, e1, if_pos (by rw [leI (by omega) (by omega)]; omega)]
    exact ⟨b, w, S, rfl, hb, hY, FrT.rf S⟩
  | succ r ih =>
    intro n m b w S hn hm hY hb
    obtain ⟨m, rfl⟩ : ∃ n', m = n' + 1 := ⟨m - 1, by omega⟩
    have be : bst a v.toInt q h (n + 1) = if fnB a v.toInt q n = true ∧ h.2.2 n = 6 then (match bst a v.toInt q h n with | none => some (n, dst a h n h.1) | some p => if p.2 < dst a h n h.1 then some (n, dst a h n h.1) else some p) else bst a v.toInt q h n := rfl
    obtain ⟨S1, es, l1⟩ := y_found hz hY.1 hW (n := n) (by omega) hq v
    have Y1 := hY.lo l1
    have go : ∀ b w, encY (bst a v.toInt q h (n + 1)) b w → ∃ (b' w' : Int32) (S' : St), mX10_sheet_130 z rc v v2 (nI q) m b w (nI (n + 1)) S1 = mX10_sheet_263 z rc v v2 (nI q) b' S' ∧ encY (bst a v.toInt q h (ns a)) b' w' ∧ YS a S' h ∧ FrT S S' := fun b w hb => by
      obtain ⟨b', w', S', x1, x2, x3, x4⟩ := ih (n + 1) m b w S1 (by omega) (by omega) Y1 hb
      exact ⟨b', w', S', x1, x2, x3, l1.t.tr x4⟩
    rw [mX10_sheet_130]; unfold mX10_sheet_130b
    rw [rd_1 (by omega) (by omega), ob, hY.1, e1, if_neg (by rw [leI (by omega) (by omega)]; omega), es, ob, nI_1]
    dsimp only
    rw [if01]
    cases hf : fnB a v.toInt q n with
    | false =>
      rw [if_neg Bool.false_ne_true]
      exact go b w (by rw [be, if_neg (fun x => by rw [hf] at x; cases x.1)]; exact hb)
    | true =>
      rw [if_pos rfl]
      obtain ⟨f, ef, hf2⟩ := y_listed (z := z) hz hW H Y1 (n := n) (by omega)
      rw [ef, ob]
      rcases hf2 with ⟨f0, c6⟩ | ⟨f0, c6⟩
      · rw [f0, if_pos rfl, rd_0 (by omega) (by omega), ob, (Y1.2.2 0 (by omega)).1]
        obtain ⟨u, eu, hu⟩ := y_far (S := S1) hW Y1.1 (i := n) (by omega) (H.2.1 0 (by omega)).1
        have fb := frI_b hW (i := n) (by omega) (H.2.1 0 (by omega)).1
        have d1 : dst a h n 1 = frI a n (h.2.1 0) := by
          show (if frI a n (h.2.1 0) < 1000000 then _ else _) = _
          rw [if_pos (by omega)]
        rw [eu, ob]
        obtain ⟨k, ek, hk⟩ := y_sh181 (z := z) (v := v) (v2 := v2) (v3 := nI q) (v6 := b) (v7 := w) (rc := rc) (rc2 := mX10_sheet_130 z rc v v2 (nI q) m) hW H Y1 (n := n) (by omega) (h.1 - 1) 1 z u (by omega) (by omega) (by rw [d1]; exact hu)
        rw [show (1 : Int32) = nI 1 from rfl, ek]
        unfold mX10_sheet_234
        rw [nI_1]
        rw [if_pos ⟨hf, c6⟩] at be
        rcases hb with ⟨b1, b2⟩ | ⟨p, b1, b2, b3⟩
        · rw [b1] at be
          rw [b2, if_pos (by decide)]
          exact go _ _ (by rw [be]; exact Or.inr ⟨_, rfl, rfl, hk⟩)
        · rw [b1] at be
          dsimp only at be
          obtain ⟨p1, -⟩ := bst_ok hW H n (by omega) b1
          rw [b2, if_neg (by rw [lt0, nI_ti (by omega)]; omega)]
          by_cases c : w < k
          · rw [if_pos c]; rw [i_lt, hk, b3] at c
            exact go _ _ (by rw [be, if_pos c]; exact Or.inr ⟨_, rfl, rfl, hk⟩)
          · rw [if_neg c]; rw [i_lt, hk, b3] at c
            exact go _ _ (by rw [be, if_neg c]; exact Or.inr ⟨p, rfl, rfl, b3⟩)
      · rw [f0, if_neg one_ne]
        exact go b w (by rw [be, if_neg (fun x => c6 x.2)]; exact hb)
theorem y_it {a : Nat → Int32} {z q den : Nat} {v : Int32} (hz : 10000 ≤ z) (hW : WF a) (hq : q < 256) (hd : den ≤ 6) : ∀ (k m : Nat) (S : St) (h : Sh), den ≤ h.1 + k → k + 2 ≤ m → SI a v.toInt q h → YS a S h → 1 ≤ h.1 →
    ∃ S', mX10_sheet_108 z v (nI den) (nI q) m 1 S = some S' ∧ YS a S' (itS a v.toInt q den k h) ∧ FrT S S' := by
  obtain ⟨e1, hN⟩ := ns_nI hW
  intro k
  induction k with
  | zero =>
    intro m S h hk hm H hY h1
    obtain ⟨m, rfl⟩ : ∃ n', m = n' + 1 := ⟨m - 1, by omega⟩
    have hc := SI_c H
    rw [mX10_sheet_108]; unfold mX10_sheet_108b
    rw [if_neg one_ne, hY.2.1, if_pos (by rw [leI (by omega) (by omega)]; omega)]
    exact ⟨S, rfl, hY, FrT.rf S⟩
  | succ k ih =>
    intro m S h hk hm H hY h1
    obtain ⟨m, rfl⟩ : ∃ n', m = n' + 1 := ⟨m - 1, by omega⟩
    have hc := SI_c H
    have li : nI den ≤ nI h.1 ↔ den ≤ h.1 := leI (by omega) (by omega)
    rw [mX10_sheet_108]; unfold mX10_sheet_108b
    rw [if_neg one_ne, hY.2.1]
    by_cases c : den ≤ h.1
    · rw [if_pos (li.mpr c), itS_fix (by unfold stpS; rw [if_pos c])]
      exact ⟨S, rfl, hY, FrT.rf S⟩
    · rw [if_neg (fun x => c (li.mp x))]
      have se : stpS a v.toInt q den h = farS a v.toInt q h := by unfold stpS; rw [if_neg c]
      obtain ⟨b, w, S1, x1, x2, x3, x4⟩ := y_sh130 (z := z) (v := v) (v2 := nI den) hz hW hq H h1 (rc := mX10_sheet_108 z v (nI den) (nI q) m) (ns a) 0 z (-1) 0 S (by omega) (by omega) hY (Or.inl ⟨rfl, rfl⟩)
      have x1' : mX10_sheet_130 z (mX10_sheet_108 z v (nI den) (nI q) m) v (nI den) (nI q) z (-1) 0 0 S = mX10_sheet_263 z (mX10_sheet_108 z v (nI den) (nI q) m) v (nI den) (nI q) b S1 := x1
      rw [x1']
      unfold mX10_sheet_263 mX10_sheet_273
      rcases x2 with ⟨b1, b2⟩ | ⟨p, b1, b2, b3⟩
      · have fe : farS a v.toInt q h = h := by unfold farS; rw [b1]
        rw [b2, if_pos (by decide), if_pos rfl, itS_fix (by rw [se, fe])]
        obtain ⟨m, rfl⟩ : ∃ n', m = n' + 1 := ⟨m - 1, by omega⟩
        rw [mX10_sheet_108]; unfold mX10_sheet_108b
        rw [if_pos rfl]
        exact ⟨S1, rfl, x3, x4⟩
      · obtain ⟨p1, p2, p3, -⟩ := bst_ok hW H (ns a) (Nat.le_refl _) b1
        have fe : farS a v.toInt q h = addS p.1 2 h := by unfold farS; rw [b1]
        rw [b2, if_neg (by rw [lt0, nI_ti (by omega)]; omega), if_neg one_ne]
        obtain ⟨S2, y1, y2, y3⟩ := y_lists (r := 2) hW H x3 p1 p3
        rw [y1, ob]
        have e : itS a v.toInt q den (k + 1) h = itS a v.toInt q den k (addS p.1 2 h) := by
          show itS a v.toInt q den k (stpS a v.toInt q den h) = _
          rw [se, fe]
        rw [e]
        have ad : (addS p.1 2 h).1 = h.1 + 1 := rfl
        obtain ⟨S', z1, z2, z3⟩ := ih m S2 (addS p.1 2 h) (by omega) (by omega) (SI_add H p1 p2 p3 (by decide)) y2 (by omega)
        exact ⟨S', z1, z2, (x4.tr y3).tr z3⟩
theorem bst_none {a : Nat → Int32} {d : Int} {q : Nat} {h : Sh} : ∀ n, (∀ m, m < n → fnB a d q m = false) → bst a d q h n = none := by
  intro n
  induction n with
  | zero => intro _; rfl
  | succ n ih =>
    intro hf
    unfold bst
    rw [if_neg (fun x => by rw [hf n (by omega)] at x; cases x.1)]
    exact ih (fun m hm => hf m (by omega))
/-- the reference's sheet -/
theorem y_sheet {a : Nat → Int32} {z q den : Nat} {v : Int32} (hz : 10000 ≤ z) (hW : WF a) (hq : q < 256) (hd : den ≤ 6) {S : St} (h0 : fA S 0 = a) : ∃ S', mX10_sheet z v (nI den) (nI q) S = some S' ∧ YS a S' (shE a v.toInt q den) ∧ PY S S' := by
  obtain ⟨e1, hN⟩ := ns_nI hW
  unfold mX10_sheet
  have fr : FrT S (sI S 6 0) := ⟨fun j h => by rw [fI_sI, if_neg h], fun _ _ _ => rfl⟩
  obtain ⟨S1, x1, x2, x3⟩ := y_sh11 (z := z) (v := v) (v2 := nI den) hz hW hq (ns a) 0 z (sI S 6 0) (by omega) (by omega) ⟨h0, rfl, fun i hi => absurd hi (Nat.not_lt_zero _)⟩
  have x1' : mX10_sheet_11 z v (nI den) (nI q) z (-1) 0 (sI S 6 0) = mX10_sheet_83 z v (nI den) (nI q) (encN (sho a v.toInt q (ns a))) S1 := x1
  rw [x1']
  unfold mX10_sheet_83 shE
  have f01 := fr.tr x3
  have s2 : sh2 a v.toInt q = match sho a v.toInt q (ns a) with
    | none => alF a v.toInt q (ns a)
    | some m => if (alF a v.toInt q (ns a)).2.2 m = 6 then addS m 1 (alF a v.toInt q (ns a)) else alF a v.toInt q (ns a) := rfl
  have HA := (alF_ok (a := a) (d := v.toInt) (q := q) (ns a) (Nat.le_refl _)).1
  cases hs : sho a v.toInt q (ns a) with
  | none =>
    rw [hs] at s2
    dsimp only at s2
    rw [show encN none = (-1 : Int32) from rfl, if_neg (by decide)]
    refine ⟨S1, rfl, ?_, f01.py⟩
    rw [itS_fix (by
      unfold stpS farS
      rw [bst_none (ns a) (sho_none (ns a) hs)]
      split <;> rfl), s2]
    exact x2
  | some k =>
    obtain ⟨k1, k2⟩ := sho_ok (ns a) hs
    rw [hs] at s2
    dsimp only at s2
    rw [show encN (some k) = nI k from rfl, if_pos (by rw [ge0, nI_ti (by omega)]; omega)]
    obtain ⟨f, ef, hf⟩ := y_listed (z := z) hz hW HA x2 k1
    rw [ef, ob]
    rcases hf with ⟨g0, c6⟩ | ⟨g0, c6⟩
    · rw [g0, if_pos rfl]
      rw [if_pos c6] at s2
      obtain ⟨S2, y1, y2, y3⟩ := y_lists (r := 1) hW HA x2 k1 c6
      rw [y1, ob, s2]
      have ad : (addS k 1 (alF a v.toInt q (ns a))).1 = (alF a v.toInt q (ns a)).1 + 1 := rfl
      obtain ⟨S', z1, z2, z3⟩ := y_it (z := z) (v := v) hz hW hq hd den z S2 (addS k 1 (alF a v.toInt q (ns a))) (by omega) (by omega) (SI_add HA k1 k2 c6 (by decide)) y2 (by omega)
      exact ⟨S', z1, z2, ((f01.tr y3).tr z3).py⟩
    · rw [g0, if_neg one_ne]
      rw [if_neg c6] at s2
      rw [s2]
      obtain ⟨i, i1, -⟩ := HA.2.2 k k1 c6
      obtain ⟨S', z1, z2, z3⟩ := y_it (z := z) (v := v) hz hW hq hd den z S1 (alF a v.toInt q (ns a)) (by omega) (by omega) HA x2 (by omega)
      exact ⟨S', z1, z2, (f01.tr z3).py⟩
theorem itS_ok {a : Nat → Int32} (hW : WF a) {d : Int} {q den : Nat} : ∀ (k : Nat) {h : Sh}, SI a d q h → SI a d q (itS a d q den k h) := by
  intro k
  induction k with
  | zero => intro h H; exact H
  | succ k ih => intro h H; exact ih (stpS_ok hW H)
theorem shE_ok {a : Nat → Int32} (hW : WF a) (d : Int) (q den : Nat) : SI a d q (shE a d q den) := itS_ok hW den sh2_ok
theorem p_shown {z : Nat} (hz : 10000 ≤ z) : ok_shown z Inv := by
  intro Sx Sy v1 v2 v3 v4 hI
  obtain ⟨e1, hN⟩ := ns_nI hI.2.1
  unfold mX9_shown mX10_shown
  rw [x_day, ob, y_in2 (B := 0) (C := 99) rfl rfl, ob]
  by_cases c1 : 0 ≤ v1.toInt ∧ v1.toInt ≤ 99
  · rw [if_pos c1, if_neg one_ne, if_neg one_ne, x_den, ob, y_in2 (B := 1) (C := 6) rfl rfl, ob]
    by_cases c2 : 1 ≤ v2.toInt ∧ v2.toInt ≤ 6
    · rw [if_pos c2, if_neg one_ne, if_neg one_ne, x_sq, ob, y_in2 (B := 0) (C := 255) rfl rfl, ob]
      by_cases c3 : 0 ≤ v3.toInt ∧ v3.toInt ≤ 255
      · rw [if_pos c3, if_neg one_ne, if_neg one_ne]
        obtain ⟨den, rfl, hd⟩ := i_ex (x := v2) (by omega)
        obtain ⟨q, rfl, hq⟩ := i_ex c3.1
        obtain ⟨X, ex, hX, px⟩ := x_sheet (v := v1) (q := q) (den := den) hz hI.2.1 (by omega) (by omega) hI.1
        obtain ⟨Y, ey, hY, py⟩ := y_sheet (S := Sy) (v := v1) (q := q) (den := den) hz hI.2.1 (by omega) (by omega) rfl
        have kp := hI.keep px py
        have hc := SI_c (shE_ok hI.2.1 v1.toInt q den)
        rw [ex, ob, ey, ob, hY.2.1, y_inN (by omega), ob]
        by_cases c4 : v4 < 0
        · rw [if_pos c4]; rw [lt0] at c4
          rw [if_neg (c := 0 ≤ v4.toInt ∧ _) (by omega), if_pos rfl]
          exact ⟨_, _, rfl, rfl, rfl, kp⟩
        · rw [if_neg c4, hX.2.2.2.1]; rw [lt0] at c4
          obtain ⟨m, rfl, hm⟩ := i_ex (x := v4) (by omega)
          have mb := i_hi (nI m)
          have li : nI (shE (fA Sy 0) v1.toInt q den).1 ≤ nI m ↔ (shE (fA Sy 0) v1.toInt q den).1 ≤ m := leI (by omega) (by omega)
          by_cases c5 : (shE (fA Sy 0) v1.toInt q den).1 ≤ m
          · rw [if_pos (li.mpr c5), if_neg (c := 0 ≤ (nI m).toInt ∧ _) (by omega), if_pos rfl]
            exact ⟨_, _, rfl, rfl, rfl, kp⟩
          · rw [if_neg (fun h => c5 (li.mp h)), if_pos (c := 0 ≤ (nI m).toInt ∧ _) (by omega), if_neg one_ne, rd_nI (by omega) (by omega), ob, rd_nI (by omega) (by omega), ob]
            exact ⟨_, _, rfl, rfl, (hX.2.2.2.2.1 m (by omega)).trans (hY.2.2 m (by omega)).1.symm, kp⟩
      · rw [if_neg c3, if_pos rfl, if_pos rfl]
        exact ⟨_, _, rfl, rfl, rfl, hI⟩
    · rw [if_neg c2, if_pos rfl, if_pos rfl]
      exact ⟨_, _, rfl, rfl, rfl, hI⟩
  · rw [if_neg c1, if_pos rfl, if_pos rfl]
    exact ⟨_, _, rfl, rfl, rfl, hI⟩
theorem y_why1 {a : Nat → Int32} {z q n : Nat} {d : Int} {S : St} {h : Sh} (hW : WF a) (H : SI a d q h) (hY : YS a S h) (hn : n < ns a) : ∀ (r i m : Nat), i + r = h.1 → r < m → (∀ j, j < i → h.2.1 j ≠ n) → mX10_why_87 z (nI n) m (nI i) S = some (h.2.2 n, S) := by
  obtain ⟨e1, hN⟩ := ns_nI hW
  have hc := SI_c H
  intro r
  induction r with
  | zero =>
    intro i m hi hm hj
    obtain ⟨m, rfl⟩ : ∃ n', m = n' + 1 := ⟨m - 1, by omega⟩
    have : i = h.1 := by omega
    subst this
    have h6 : h.2.2 n = 6 := by
      by_cases c : h.2.2 n = 6
      · exact c
      · obtain ⟨i, i1, i2⟩ := H.2.2 n hn c
        exact absurd i2 (hj i i1)
    rw [mX10_why_87]; unfold mX10_why_87b
    rw [hY.2.1, if_pos (by rw [leI (by omega) (by omega)]; omega), h6]
  | succ r ih =>
    intro i m hi hm hj
    obtain ⟨m, rfl⟩ : ∃ n', m = n' + 1 := ⟨m - 1, by omega⟩
    have hs := (H.2.1 i (by omega)).1
    rw [mX10_why_87]; unfold mX10_why_87b mX10_why_107
    rw [hY.2.1, if_neg (by rw [leI (by omega) (by omega)]; omega), rd_nI (by omega) (by omega), ob, (hY.2.2 i (by omega)).1]
    by_cases c : h.2.1 i = n
    · rw [if_pos (by rw [c]), rd_nI (by omega) (by omega), ob, (hY.2.2 i (by omega)).2, c]
    · rw [if_neg (by rw [nI_eq (by omega) (by omega)]; exact c), nI_1]
      refine ih (i + 1) m (by omega) (by omega) (fun j hj2 => ?_)
      rcases (show j < i ∨ j = i by omega) with e | e
      · exact hj j e
      · rw [e]; exact c
theorem p_why {z : Nat} (hz : 10000 ≤ z) : ok_why z Inv := by
  intro Sx Sy v1 v2 v3 hI
  obtain ⟨e1, hN⟩ := ns_nI hI.2.1
  unfold mX9_why mX10_why
  rw [x_day, ob, y_in2 (B := 0) (C := 99) rfl rfl, ob]
  by_cases c1 : 0 ≤ v1.toInt ∧ v1.toInt ≤ 99
  · rw [if_pos c1, if_neg one_ne, if_neg one_ne, x_den, ob, y_in2 (B := 1) (C := 6) rfl rfl, ob]
    by_cases c2 : 1 ≤ v2.toInt ∧ v2.toInt ≤ 6
    · rw [if_pos c2, if_neg one_ne, if_neg one_ne, x_hasS (hI.1.2.1.trans e1) hN, ob, y_isSnd e1 hN, ob]
      by_cases c3 : 0 ≤ v3.toInt ∧ v3.toInt < ns (fA Sy 0)
      · rw [if_pos c3, if_neg one_ne, if_neg one_ne]
        obtain ⟨den, rfl, hd⟩ := i_ex (x := v2) (by omega)
        obtain ⟨n, rfl, hn⟩ := i_ex c3.1
        have hn' : n < ns (fA Sy 0) := by omega
        have s0 : (fA Sy 0 (2564 + 10 * n + 0)).toInt = sa (fA Sy 0) n 0 := rfl
        have r6 : fA Sx 6 n = fA Sy 0 (2564 + 10 * n + 0) := hI.1.2.2.2.2.2 n 0 (by omega) hn' (by omega)
        rw [rd_nI (by omega) (by omega), ob, r6, y_o0 rfl (by omega), ob]
        by_cases c0 : fA Sy 0 (2564 + 10 * n + 0) = 2
        · rw [if_pos c0, if_pos c0]
          exact ⟨_, _, rfl, rfl, rfl, hI⟩
        · have c0' : ¬ sa (fA Sy 0) n 0 = 2 := fun h => c0 (by rw [i_eq, s0, h]; rfl)
          rw [if_neg c0, if_neg c0, x_there hI.1 hn' hN, ob, y_there rfl (by omega), ob, if01, if01]
          cases ht : thB (fA Sy 0) n v1.toInt with
          | false =>
            rw [if_neg Bool.false_ne_true, if_neg Bool.false_ne_true]
            exact ⟨_, _, rfl, rfl, rfl, hI⟩
          | true =>
            rw [if_pos rfl, if_pos rfl]
            obtain ⟨c, X1, ec, hc, lx⟩ := x_cor hz hI.1 hI.2.1 hn'
            obtain ⟨Y1, ew, ly⟩ := y_wt (S := Sy) hz rfl hI.2.1 hn'
            have uw := unkW hI.2.1 hn' hc
            rw [ec, ob, ew, ob]
            dsimp only
            rw [if01]
            cases hw : wtB (fA Sy 0) n with
            | true =>
              rw [if_pos (uw.mpr hw), if_pos rfl]
              exact ⟨_, _, rfl, rfl, rfl, hI.keep lx.px ly.py⟩
            | false =>
              rw [if_neg (fun h => by rw [uw.mp h] at hw; cases hw), if_neg Bool.false_ne_true]
              obtain ⟨sq, sb⟩ := sq_ok hI.2.1 hn'
              have hR1 : Rel 0 X1 (fA Sy 0) := hI.1.lo lx
              have hY0 : fA Y1 0 = fA Sy 0 := ly.a 0
              rw [x_sqOf hI.2.1 hR1 hn', ob, y_o1 hY0 (by omega), ob, y_o2 hY0 (by omega), ob]
              unfold mX10_squareOf
              rw [ob, sq]
              obtain ⟨X, ex, hX, px⟩ := x_sheet (v := v1) (q := sqr (fA Sy 0) n) (den := den) hz hI.2.1 sb (by omega) hR1
              obtain ⟨Y, ey, hY, py⟩ := y_sheet (S := Y1) (v := v1) (q := sqr (fA Sy 0) n) (den := den) hz hI.2.1 sb (by omega) hY0
              have HS := shE_ok hI.2.1 v1.toInt (sqr (fA Sy 0) n) den
              have hcc := SI_c HS
              have hf : fnB (fA Sy 0) v1.toInt (sqr (fA Sy 0) n) n = true := by unfold fnB; rw [decide_eq_false c0', decide_eq_true rfl, ht, hw]; rfl
              have yw := y_why1 (z := z) hI.2.1 HS hY hn' (shE (fA Sy 0) v1.toInt (sqr (fA Sy 0) n) den).1 0 z (by omega) (by omega) (fun j hj => by omega)
              have yw' : mX10_why_87 z (nI n) z 0 Y = some ((shE (fA Sy 0) v1.toInt (sqr (fA Sy 0) n) den).2.2 n, Y) := yw
              rw [ex, ob, ey, ob, rd_nI (by omega) (by omega), ob, yw']
              exact ⟨_, _, rfl, rfl, hX.2.2.2.2.2 n hn' hf, hI.keep (lx.px.tr px) (ly.py.tr py)⟩
      · rw [if_neg c3, if_pos rfl, if_pos rfl]
        exact ⟨_, _, rfl, rfl, rfl, hI⟩
    · rw [if_neg c2, if_pos rfl, if_pos rfl]
      exact ⟨_, _, rfl, rfl, rfl, hI⟩
  · rw [if_neg c1, if_pos rfl, if_pos rfl]
    exact ⟨_, _, rfl, rfl, rfl, hI⟩
