/-! PURE: the sheet, the reference's side -/
def YS (a : Nat → Int32) (S : St) (h : Sh) : Prop := fA S 0 = a ∧ fI S 6 = nI h.1 ∧ ∀ i, i < h.1 → fA S 3 i = nI (h.2.1 i) ∧ fA S 4 i = h.2.2 (h.2.1 i)
def FrT (S S' : St) : Prop := (∀ j, j ≠ 6 → fI S' j = fI S j) ∧ ∀ j, j ≠ 3 → j ≠ 4 → fA S' j = fA S j
theorem FrT.rf (S : St) : FrT S S := ⟨fun _ _ => rfl, fun _ _ _ => rfl⟩
theorem FrT.tr {S S' S'' : St} (h : FrT S S') (g : FrT S' S'') : FrT S S'' := ⟨fun j a => (g.1 j a).trans (h.1 j a), fun j a b => (g.2 j a b).trans (h.2 j a b)⟩
theorem Lo.t {S S' : St} (h : Lo S S') : FrT S S' := ⟨fun j _ => h.i j, fun j _ _ => h.a j⟩
theorem FrT.py {S S' : St} (h : FrT S S') : PY S S' := ⟨fun k _ => h.1 k (by omega), fun k _ => h.2 k (by omega) (by omega)⟩
theorem YS.lo {a : Nat → Int32} {S S' : St} {h : Sh} (H : YS a S h) (l : Lo S S') : YS a S' h := ⟨(l.a 0).trans H.1, (l.i 6).trans H.2.1, fun i hi => by rw [l.a, l.a]; exact H.2.2 i hi⟩
theorem y_lists {a : Nat → Int32} {d : Int} {q n : Nat} {S : St} {h : Sh} {r : Int32} (hW : WF a) (H : SI a d q h) (hY : YS a S h) (hn : n < ns a) (h6 : h.2.2 n = 6) : ∃ S', mX10_lists (nI n) r S = some S' ∧ YS a S' (addS n r h) ∧ FrT S S' := by
  obtain ⟨e1, hN⟩ := ns_nI hW
  have rm := SI_room H hn h6
  obtain ⟨y0, y6, y3⟩ := hY
  unfold mX10_lists
  rw [y6, wr_nI (by omega) (by omega), ob, fI_sA, y6, wr_nI (by omega) (by omega), ob, fI_sA, fI_sA, y6, nI_1]
  refine ⟨_, rfl, ⟨?_, ?_, fun i hi => ?_⟩, fun j hj => ?_, fun j h1 h2 => ?_⟩
  · rw [fA_sI, fA_ne (by omega), fA_ne (by omega)]; exact y0
  · rw [fI_sI, if_pos rfl]; rfl
  · rw [fA_sI, fA_ne (by omega), fA_eq, fA_sI, fA_eq, fA_ne (by omega)]
    show upd (fA S 3) h.1 (nI n) i = nI (if i = h.1 then n else h.2.1 i) ∧ upd (fA S 4) h.1 r i = upd h.2.2 n r (if i = h.1 then n else h.2.1 i)
    rw [up_e, up_e]
    by_cases e : i = h.1
    · rw [if_pos e, if_pos e, if_pos e, up_s]; exact ⟨rfl, rfl⟩
    · have hi' : i < h.1 + 1 := hi
      obtain ⟨-, -, g3⟩ := H.2.1 i (by omega)
      rw [if_neg e, if_neg e, if_neg e, up_n _ _ (fun e2 => g3 (by rw [e2]; exact h6))]
      exact y3 i (by omega)
  · rw [fI_sI, if_neg hj, fI_sA, fI_sA]
  · rw [fA_sI, fA_ne h2, fA_ne h1]
theorem y_listed1 {a : Nat → Int32} {z n : Nat} {S : St} {h : Sh} (hc : h.1 ≤ 200) (hY : YS a S h) (hs : ∀ i, i < h.1 → h.2.1 i < 200) (hn : n < 200) : ∀ (r i m : Nat), i + r = h.1 → r + 1 < m → (∀ j, j < i → h.2.1 j ≠ n) → ∃ w : Int32, mX10_isListed_4 z S (nI n) m 0 (nI i) = some w ∧ ((w = 0 ∧ ∀ j, j < h.1 → h.2.1 j ≠ n) ∨ (w = 1 ∧ ∃ j, j < h.1 ∧ h.2.1 j = n)) := by
  intro r
  induction r with
  | zero =>
    intro i m hi hm hj
    obtain ⟨m, rfl⟩ : ∃ n', m = n' + 1 := ⟨m - 1, by omega⟩
    have : i = h.1 := by omega
    subst this
    rw [mX10_isListed_4]; unfold mX10_isListed_4b
    rw [hY.2.1, if_pos (by rw [leI (by omega) (by omega)]; omega)]
    exact ⟨0, rfl, Or.inl ⟨rfl, hj⟩⟩
  | succ r ih =>
    intro i m hi hm hj
    obtain ⟨m, rfl⟩ : ∃ n', m = n' + 1 := ⟨m - 1, by omega⟩
    have hsi := hs i (by omega)
    rw [mX10_isListed_4]; unfold mX10_isListed_4b
    rw [hY.2.1, if_neg (by rw [leI (by omega) (by omega)]; omega), if_pos rfl, rd_nI (by omega) (by omega), ob, (hY.2.2 i (by omega)).1, nI_1]
    by_cases c : h.2.1 i = n
    · rw [if_pos (by rw [c])]
      obtain ⟨m, rfl⟩ : ∃ n', m = n' + 1 := ⟨m - 1, by omega⟩
      rw [mX10_isListed_4]; unfold mX10_isListed_4b
      refine ⟨1, ?_, Or.inr ⟨rfl, i, by omega, c⟩⟩
      by_cases c2 : fI S 6 ≤ nI (i + 1)
      · rw [if_pos c2]; rfl
      · rw [if_neg c2, if_neg one_ne]; rfl
    · rw [if_neg (by rw [nI_eq (by omega) (by omega)]; exact c)]
      refine ih (i + 1) m (by omega) (by omega) (fun j hj2 => ?_)
      rcases (show j < i ∨ j = i by omega) with e | e
      · exact hj j e
      · rw [e]; exact c
theorem y_listed {a : Nat → Int32} {z q n : Nat} {d : Int} {S : St} {h : Sh} (hz : 10000 ≤ z) (hW : WF a) (H : SI a d q h) (hY : YS a S h) (hn : n < ns a) : ∃ w : Int32, mX10_isListed z S (nI n) = some w ∧ ((w = 0 ∧ h.2.2 n = 6) ∨ (w = 1 ∧ h.2.2 n ≠ 6)) := by
  have hN := (ns_nI hW).2
  have hc := SI_c H
  unfold mX10_isListed
  obtain ⟨w, e, hw⟩ := y_listed1 (z := z) (n := n) (by omega) hY (fun i hi => by have := (H.2.1 i hi).1; omega) (by omega) h.1 0 z (by omega) (by omega) (fun j hj => by omega)
  refine ⟨w, e, ?_⟩
  rcases hw with ⟨w0, h0⟩ | ⟨w1, j, j1, j2⟩
  · refine Or.inl ⟨w0, ?_⟩
    by_cases c : h.2.2 n = 6
    · exact c
    · obtain ⟨i, i1, i2⟩ := H.2.2 n hn c
      exact absurd i2 (h0 i i1)
  · refine Or.inr ⟨w1, ?_⟩
    have := (H.2.1 j j1).2.2
    rw [j2] at this; exact this
theorem y_alw1 {a : Nat → Int32} {z n : Nat} {v : Int32} (hz : 10000 ≤ z) (hW : WF a) (hn : n < ns a) : ∀ (r k m : Nat) (S : St), k + r = ns a → r < m → fA S 0 = a → alS a v.toInt n k = false → ∃ S', mX10_isAlways_24 z (nI n) v m (nI k) S = some (if alS a v.toInt n (ns a) then 1 else 0, S') ∧ Lo S S' := by
  obtain ⟨e1, hN⟩ := ns_nI hW
  intro r
  induction r with
  | zero =>
    intro k m S hk hm h0 hf
    obtain ⟨m, rfl⟩ : ∃ n', m = n' + 1 := ⟨m - 1, by omega⟩
    have : k = ns a := by omega
    subst this
    rw [mX10_isAlways_24]; unfold mX10_isAlways_24b
    rw [rd_1 (by omega) (by omega), ob, h0, e1, if_pos (by rw [leI (by omega) (by omega)]; omega), hf]
    exact ⟨S, rfl, Lo.rf S⟩
  | succ r ih =>
    intro k m S hk hm h0 hf
    obtain ⟨m, rfl⟩ : ∃ n', m = n' + 1 := ⟨m - 1, by omega⟩
    have s4 : (a (2564 + 10 * k + 4)).toInt = sa a k 4 := rfl
    have t4 : (a (2564 + 10 * n + 4)).toInt = sa a n 4 := rfl
    have t1 : (a (2564 + 10 * n + 1)).toInt = sa a n 1 := rfl
    have t2 : (a (2564 + 10 * n + 2)).toInt = sa a n 2 := rfl
    have nx := alS_s hf
    obtain ⟨S1, es, l1⟩ := y_swept hz h0 hW (n := k) (by omega) v
    have h1 : fA S1 0 = a := (l1.a 0).trans h0
    have go : ∀ S2, Lo S S2 → fA S2 0 = a → alS a v.toInt n (k + 1) = false → ∃ S', mX10_isAlways_24 z (nI n) v m (nI (k + 1)) S2 = some (if alS a v.toInt n (ns a) then 1 else 0, S') ∧ Lo S S' := fun S2 l2 h2 h => by
      obtain ⟨S', x1, x2⟩ := ih (k + 1) m S2 (by omega) (by omega) h2 h
      exact ⟨S', x1, l2.tr x2⟩
    rw [mX10_isAlways_24]; unfold mX10_isAlways_24b
    rw [rd_1 (by omega) (by omega), ob, h0, e1, if_neg (by rw [leI (by omega) (by omega)]; omega), es, ob, nI_1]
    dsimp only
    rw [if01]
    cases hs : swB a v.toInt k with
    | false => rw [if_neg Bool.false_ne_true]; exact go S1 l1 h1 (by rw [nx, hs]; rfl)
    | true =>
      rw [hs, Bool.true_and] at nx
      rw [if_pos rfl, y_o4 h1 (by omega), ob, y_o4 h1 (by omega), ob]
      by_cases c4 : a (2564 + 10 * n + 4) ≤ a (2564 + 10 * k + 4)
      · rw [if_pos c4]; rw [i_le, s4, t4] at c4
        exact go S1 l1 h1 (by rw [nx, decide_eq_false (show ¬ sa a k 4 < sa a n 4 by omega)]; rfl)
      · rw [if_neg c4]; rw [i_le, s4, t4] at c4
        rw [decide_eq_true (show sa a k 4 < sa a n 4 by omega), Bool.true_and] at nx
        rw [y_o1 h1 (by omega), ob, y_o2 h1 (by omega), ob, y_place h1 hW (by omega), ob, t1, t2, if01]
        cases hp : hpB a k (sa a n 1) (sa a n 2) with
        | false => rw [if_neg Bool.false_ne_true]; exact go S1 l1 h1 (by rw [nx, hp]; rfl)
        | true =>
          rw [hp, Bool.true_and] at nx
          rw [if_pos rfl]
          obtain ⟨r1, S2, y1, g1, l2⟩ := y_cor (S := S1) hz h1 hW hn
          rw [y1, ob]
          dsimp only
          obtain ⟨r2, S3, y2, g2, l3⟩ := y_cor (S := S2) hz ((l2.a 0).trans h1) hW (n := k) (by omega)
          rw [y2, ob]
          dsimp only
          have l123 := (l1.tr l2).tr l3
          by_cases cc : r2 ≤ r1
          · rw [if_pos cc]; rw [i_le, g1, g2] at cc
            exact go S3 l123 ((l123.a 0).trans h0) (by rw [nx, decide_eq_false (by omega)])
          · rw [if_neg cc]; rw [i_le, g1, g2] at cc
            rw [decide_eq_true (show cor a n < cor a k by omega)] at nx
            rw [alS_up nx (show k + 1 ≤ ns a by omega)]
            exact ⟨S3, rfl, l123⟩
theorem y_alw {a : Nat → Int32} {z n : Nat} {v : Int32} (hz : 10000 ≤ z) (hW : WF a) (hn : n < ns a) {S : St} (h0 : fA S 0 = a) : ∃ S', mX10_isAlways z (nI n) v S = some (if alw a v.toInt n then 1 else 0, S') ∧ Lo S S' := by
  obtain ⟨e1, hN⟩ := ns_nI hW
  have s0 : (a (2564 + 10 * n + 0)).toInt = sa a n 0 := rfl
  unfold mX10_isAlways
  rw [y_o0 h0 (by omega), ob]
  by_cases c3 : a (2564 + 10 * n + 0) = 3
  · have : sa a n 0 = 3 := by rw [← s0, c3]; rfl
    rw [if_pos c3, if_pos (by unfold alw; rw [decide_eq_true this]; rfl)]
    exact ⟨S, rfl, Lo.rf S⟩
  · have n3 : ¬ sa a n 0 = 3 := fun h => c3 (by rw [i_eq, s0, h]; rfl)
    rw [if_neg c3, ob]
    by_cases c4 : a (2564 + 10 * n + 0) = 4
    · have : sa a n 0 = 4 := by rw [← s0, c4]; rfl
      rw [if_pos c4, if_pos (by unfold alw; rw [decide_eq_true this]; simp)]
      exact ⟨S, rfl, Lo.rf S⟩
    · have n4 : ¬ sa a n 0 = 4 := fun h => c4 (by rw [i_eq, s0, h]; rfl)
      have ae : alw a v.toInt n = alS a v.toInt n (ns a) := by unfold alw; rw [decide_eq_false n3, decide_eq_false n4]; rfl
      rw [if_neg c4, ae]
      exact y_alw1 (z := z) hz hW hn (ns a) 0 z S (by omega) (by omega) h0 rfl
