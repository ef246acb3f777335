/-! PURE: the chart, the class's side; bottom, check -/
theorem x_measL {a : Nat → Int32} {z : Nat} (hz : 10000 ≤ z) (hW : WF a) : ∀ (r k n : Nat) (S : St), k + r = ns a → r < n → Rel 0 S a → ∃ S', mX7_measure_2 z n (nI k) S = some S' ∧ (∀ j, fI S' j = fI S j) ∧ (∀ j, j ≠ 16 → fA S' j = fA S j) ∧ (∀ i, k ≤ i → i < ns a → (fA S' 16 i).toInt = cor a i) ∧ ∀ i, i < k → fA S' 16 i = fA S 16 i := by
  obtain ⟨e1, hN⟩ := ns_nI hW
  intro r
  induction r with
  | zero =>
    intro k n S hk hn hR
    obtain ⟨n, rfl⟩ : ∃ n', n = n' + 1 := ⟨n - 1, by omega⟩
    rw [mX7_measure_2]; unfold mX7_measure_2b
    rw [hR.2.1, e1, if_pos (by rw [nI_leI (by omega) (by omega)]; omega)]
    exact ⟨S, rfl, fun _ => rfl, fun _ _ => rfl, fun i h1 h2 => by omega, fun _ _ => rfl⟩
  | succ r ih =>
    intro k n S hk hn hR
    obtain ⟨n, rfl⟩ : ∃ n', n = n' + 1 := ⟨n - 1, by omega⟩
    rw [mX7_measure_2]; unfold mX7_measure_2b
    obtain ⟨c, S1, ec, hc, l1⟩ := x_cor hz hR hW (n := k) (by omega)
    rw [hR.2.1, e1, if_neg (by rw [nI_leI (by omega) (by omega)]; omega), ec, ob, wr_nI (by omega) (by omega), ob, nI_1]
    have hR1 : Rel 0 (sA S1 16 (upd (fA S1 16) k c)) a := (hR.lo l1).of (by omega) (fun _ _ => rfl) (fun j _ h => fA_ne (by omega))
    obtain ⟨S', f1, f2, f3, f4, f5⟩ := ih (k + 1) n _ (by omega) (by omega) hR1
    refine ⟨S', f1, fun j => (f2 j).trans (l1.i j), fun j hj => (f3 j hj).trans ((fA_ne hj).trans (l1.a j)), fun i h1 h2 => ?_, fun i hi => ?_⟩
    · by_cases q : i = k
      · subst q
        rw [f5 i (by omega), fA_eq, up_s, hc]
      · exact f4 i (by omega) h2
    · rw [f5 i (by omega), fA_eq, up_n _ _ (by omega), l1.a 16]
theorem x_fill44 (z : Nat) (v : Int32) : ∀ (r k n : Nat) (S : St), k + r = 256 → r < n → ∃ g : Nat → Int32, mJ7_fill_X57_5 z v 256 n (nI k) S = some (sA S 44 g) ∧ ∀ q, q < 256 → g q = if k ≤ q then v else fA S 44 q := by
  intro r
  induction r with
  | zero =>
    intro k n S hk hn
    obtain ⟨n, rfl⟩ : ∃ n', n = n' + 1 := ⟨n - 1, by omega⟩
    rw [mJ7_fill_X57_5]; unfold mJ7_fill_X57_5b
    rw [if_pos (by rw [show (256 : Int32) = nI 256 from rfl, nI_leI (by omega) (by omega)]; omega)]
    exact ⟨fA S 44, by rw [sA_self], fun q hq => by rw [if_neg (by omega)]⟩
  | succ r ih =>
    intro k n S hk hn
    obtain ⟨n, rfl⟩ : ∃ n', n = n' + 1 := ⟨n - 1, by omega⟩
    rw [mJ7_fill_X57_5]; unfold mJ7_fill_X57_5b
    rw [if_neg (by rw [show (256 : Int32) = nI 256 from rfl, nI_leI (by omega) (by omega)]; omega), wr_nI (by omega) (by omega), ob, nI_1]
    obtain ⟨g, e, hg⟩ := ih (k + 1) n (sA S 44 (upd (fA S 44) k v)) (by omega) (by omega)
    refine ⟨g, by rw [e, sA_sA], fun q hq => ?_⟩
    rw [hg q hq, fA_eq, up_e]
    by_cases c : q = k
    · rw [if_neg (by omega), if_pos c, if_pos (by omega)]
    · by_cases c2 : k ≤ q
      · rw [if_pos (by omega), if_pos c2]
      · rw [if_neg (by omega), if_neg c, if_neg c2]
theorem x_fill43 (z : Nat) (v : Int32) : ∀ (r k n : Nat) (S : St), k + r = 256 → r < n → ∃ g : Nat → Int32, mJ7_fill_X56_5 z v 256 n (nI k) S = some (sA S 43 g) ∧ ∀ q, q < 256 → g q = if k ≤ q then v else fA S 43 q := by
  intro r
  induction r with
  | zero =>
    intro k n S hk hn
    obtain ⟨n, rfl⟩ : ∃ n', n = n' + 1 := ⟨n - 1, by omega⟩
    rw [mJ7_fill_X56_5]; unfold mJ7_fill_X56_5b
    rw [if_pos (by rw [show (256 : Int32) = nI 256 from rfl, nI_leI (by omega) (by omega)]; omega)]
    exact ⟨fA S 43, by rw [sA_self], fun q hq => by rw [if_neg (by omega)]⟩
  | succ r ih =>
    intro k n S hk hn
    obtain ⟨n, rfl⟩ : ∃ n', n = n' + 1 := ⟨n - 1, by omega⟩
    rw [mJ7_fill_X56_5]; unfold mJ7_fill_X56_5b
    rw [if_neg (by rw [show (256 : Int32) = nI 256 from rfl, nI_leI (by omega) (by omega)]; omega), wr_nI (by omega) (by omega), ob, nI_1]
    obtain ⟨g, e, hg⟩ := ih (k + 1) n (sA S 43 (upd (fA S 43) k v)) (by omega) (by omega)
    refine ⟨g, by rw [e, sA_sA], fun q hq => ?_⟩
    rw [hg q hq, fA_eq, up_e]
    by_cases c : q = k
    · rw [if_neg (by omega), if_pos c, if_pos (by omega)]
    · by_cases c2 : k ≤ q
      · rw [if_pos (by omega), if_pos c2]
      · rw [if_neg (by omega), if_neg c, if_neg c2]
/-- measured: each sounding's depth stands in its row -/
def Msd (a : Nat → Int32) (S : St) : Prop := Rel 0 S a ∧ ∀ i, i < ns a → (fA S 16 i).toInt = cor a i
theorem x_there {S : St} {a : Nat → Int32} (hR : Rel 0 S a) {n : Nat} (hn : n < ns a) (hN : ns a ≤ 200) (v : Int32) : mX6_isThere S (nI n) v = some (if thB a n v.toInt then 1 else 0) := by
  unfold mX6_isThere thB
  have s4 : (a (2564 + 10 * n + 4)).toInt = sa a n 4 := rfl
  have s7 : (a (2564 + 10 * n + 7)).toInt = sa a n 7 := rfl
  have r10 : fA S 10 n = a (2564 + 10 * n + 4) := hR.2.2.2.2.2 n 4 (by omega) hn (by omega)
  have r13 : fA S 13 n = a (2564 + 10 * n + 7) := hR.2.2.2.2.2 n 7 (by omega) hn (by omega)
  rw [rd_nI (by omega) (by omega), ob, r10]
  by_cases c : v < a (2564 + 10 * n + 4)
  · rw [if_pos c]; rw [i_lt, s4] at c
    rw [decide_eq_false (show ¬ sa a n 4 ≤ v.toInt by omega)]; rfl
  · rw [if_neg c, rd_nI (by omega) (by omega), ob, r13]; rw [i_lt, s4] at c
    by_cases c2 : a (2564 + 10 * n + 7) ≤ v
    · rw [if_pos c2]; rw [i_le, s7] at c2
      rw [decide_eq_false (show ¬ v.toInt < sa a n 7 by omega), Bool.and_false]; rfl
    · rw [if_neg c2]; rw [i_le, s7] at c2
      rw [decide_eq_true (show sa a n 4 ≤ v.toInt by omega), decide_eq_true (show v.toInt < sa a n 7 by omega)]; rfl
theorem unkW {a : Nat → Int32} (hW : WF a) {n : Nat} (hn : n < ns a) {r : Int32} (h : r.toInt = cor a n) : r = (-30000) ↔ wtB a n = true := by
  rw [unk_eq h, cor_w hW hn, wtB_iff]
theorem x_counts {S : St} {a : Nat → Int32} (hW : WF a) (hM : Msd a S) {n : Nat} (hn : n < ns a) (v : Int32) : mX7_counts S (nI n) v = some (if thB a n v.toInt && !wtB a n then 1 else 0) := by
  have hN := (ns_nI hW).2
  unfold mX7_counts
  rw [rd_nI (by omega) (by omega), ob]
  have u := unkW hW hn (hM.2 n hn)
  cases hw : wtB a n with
  | true => rw [if_pos (u.mpr hw)]; simp
  | false =>
    rw [if_neg (fun h => by rw [u.mp h] at hw; cases hw), x_there hM.1 hn hN, ob]
    cases ht : thB a n v.toInt with
    | true => rfl
    | false => rfl
def mx (o D : Int32) : Int32 := if o < D then D else o
section SP
variable {z n0 left right : Nat} {v6 : Int32}
theorem x_span1 {rc : Int32 → St → Option St} {r0 : Nat} (hr0 : r0 < 16) (hright : right ≤ 16) (hn0 : n0 < 200) (v3 : Int32) : ∀ (k c n : Nat) (S : St), right - c = k → k < n → c ≤ 1000 → ∃ g : Nat → Int32, mX2_enterSpan_89 z rc (nI n0) v3 (nI right) v6 (nI r0) n (nI c) S = rc (nI (r0 + 1)) (sA S 43 g) ∧ ∀ q, q < 256 → g q = if q / 16 = r0 ∧ c ≤ q % 16 ∧ q % 16 < right then mx (fA S 43 q) (fA S 16 n0) else fA S 43 q := by
  intro k
  induction k with
  | zero =>
    intro c n S hk hn hc
    obtain ⟨n, rfl⟩ : ∃ n', n = n' + 1 := ⟨n - 1, by omega⟩
    rw [mX2_enterSpan_89]; unfold mX2_enterSpan_89b
    rw [if_pos (by rw [nI_leI (by omega) (by omega)]; omega), nI_1]
    exact ⟨fA S 43, by rw [sA_self], fun q hq => by rw [if_neg (by omega)]⟩
  | succ k ih =>
    intro c n S hk hn hc
    obtain ⟨n, rfl⟩ : ∃ n', n = n' + 1 := ⟨n - 1, by omega⟩
    rw [mX2_enterSpan_89]; unfold mX2_enterSpan_89b
    have ix : (16 : Int32) * nI r0 + nI c = nI (16 * r0 + c) := by rw [show (16 : Int32) = nI 16 from rfl, pk_mul, nI_add]
    rw [if_neg (by rw [nI_leI (by omega) (by omega)]; omega), ix, rd_nI (by omega) (by omega), ob, rd_nI (by omega) (by omega), ob, w_max, ob, wr_nI (by omega) (by omega), ob, nI_1]
    obtain ⟨g, e, hg⟩ := ih (c + 1) n (sA S 43 (upd (fA S 43) (16 * r0 + c) (if fA S 43 (16 * r0 + c) < fA S 16 n0 then fA S 16 n0 else fA S 43 (16 * r0 + c)))) (by omega) (by omega) (by omega)
    refine ⟨g, by rw [e, sA_sA], fun q hq => ?_⟩
    rw [hg q hq, fA_eq, fA_ne (by omega), up_e]
    by_cases cq : q = 16 * r0 + c
    · subst cq
      rw [if_neg (c := (16 * r0 + c) / 16 = r0 ∧ c + 1 ≤ (16 * r0 + c) % 16 ∧ (16 * r0 + c) % 16 < right) (by omega), if_pos rfl, if_pos (c := (16 * r0 + c) / 16 = r0 ∧ c ≤ (16 * r0 + c) % 16 ∧ (16 * r0 + c) % 16 < right) (by omega)]; rfl
    · rw [if_neg cq]
      by_cases c2 : q / 16 = r0 ∧ c ≤ q % 16 ∧ q % 16 < right
      · rw [if_pos (by omega), if_pos c2]
      · rw [if_neg (by omega), if_neg c2]
theorem x_span2 (hz : 10000 ≤ z) (hright : right ≤ 16) (hn0 : n0 < 200) (hleft : left ≤ 1000) {end' : Nat} (hend : end' ≤ 16) : ∀ (k t n : Nat) (S : St), end' - t = k → k < n → t ≤ 1000 → ∃ g : Nat → Int32, mX2_enterSpan_79 z (nI n0) (nI left) (nI right) (nI end') n (nI t) S = some (sA S 43 g) ∧ ∀ q, q < 256 → g q = if (t ≤ q / 16 ∧ q / 16 < end') ∧ left ≤ q % 16 ∧ q % 16 < right then mx (fA S 43 q) (fA S 16 n0) else fA S 43 q := by
  intro k
  induction k with
  | zero =>
    intro t n S hk hn ht
    obtain ⟨n, rfl⟩ : ∃ n', n = n' + 1 := ⟨n - 1, by omega⟩
    rw [mX2_enterSpan_79]; unfold mX2_enterSpan_79b
    rw [if_pos (by rw [nI_leI (by omega) (by omega)]; omega)]
    exact ⟨fA S 43, by rw [sA_self], fun q hq => by rw [if_neg (by omega)]⟩
  | succ k ih =>
    intro t n S hk hn ht
    obtain ⟨n, rfl⟩ : ∃ n', n = n' + 1 := ⟨n - 1, by omega⟩
    rw [mX2_enterSpan_79]; unfold mX2_enterSpan_79b
    rw [if_neg (by rw [nI_leI (by omega) (by omega)]; omega)]
    obtain ⟨g, e, hg⟩ := x_span1 (z := z) (n0 := n0) (v6 := nI end') (rc := mX2_enterSpan_79 z (nI n0) (nI left) (nI right) (nI end') n) (r0 := t) (by omega) hright hn0 (nI left) (right - left) left z S rfl (by omega) hleft
    rw [e]
    obtain ⟨g2, e2, hg2⟩ := ih (t + 1) n (sA S 43 g) (by omega) (by omega) (by omega)
    refine ⟨g2, by rw [e2, sA_sA], fun q hq => ?_⟩
    rw [hg2 q hq, fA_eq, fA_ne (by omega), hg q hq]
    by_cases c1 : q / 16 = t
    · rw [if_neg (by omega)]
      by_cases c2 : left ≤ q % 16 ∧ q % 16 < right
      · rw [if_pos (by omega), if_pos (by omega)]
      · rw [if_neg (by omega), if_neg (by omega)]
    · rw [if_neg (show ¬ (q / 16 = t ∧ left ≤ q % 16 ∧ q % 16 < right) by omega)]
      by_cases c2 : (t ≤ q / 16 ∧ q / 16 < end') ∧ left ≤ q % 16 ∧ q % 16 < right
      · rw [if_pos (by omega), if_pos c2]
      · rw [if_neg (by omega), if_neg c2]
end SP
theorem hp_iff {a : Nat → Int32} {n : Nat} {x y : Int} : hpB a n x y = true ↔ (sa a n 1 ≤ x ∧ x < sa a n 1 + sa a n 8 ∧ sa a n 2 ≤ y ∧ y < sa a n 2 + sa a n 9) := by
  unfold hpB; simp [Bool.and_eq_true, decide_eq_true_iff]
theorem x_entSpan {S : St} {a : Nat → Int32} {z n : Nat} (hz : 10000 ≤ z) (hW : WF a) (hM : Msd a S) (hn : n < ns a) : ∃ g : Nat → Int32, mX2_enterSpan z (nI n) S = some (sA S 43 g) ∧ ∀ q, q < 256 → g q = if cvB a q n then mx (fA S 43 q) (fA S 16 n) else fA S 43 q := by
  have hN := (ns_nI hW).2
  obtain ⟨g1, g2, g3, g4, g5, g6, g7, g8, g9, g10⟩ := hW.2.2.2.2.2 n (by omega) hn
  have s1 : (a (2564 + 10 * n + 1)).toInt = sa a n 1 := rfl
  have s2 : (a (2564 + 10 * n + 2)).toInt = sa a n 2 := rfl
  have s8 : (a (2564 + 10 * n + 8)).toInt = sa a n 8 := rfl
  have s9 : (a (2564 + 10 * n + 9)).toInt = sa a n 9 := rfl
  have r7 : fA S 7 n = a (2564 + 10 * n + 1) := hM.1.2.2.2.2.2 n 1 (by omega) hn (by omega)
  have r8 : fA S 8 n = a (2564 + 10 * n + 2) := hM.1.2.2.2.2.2 n 2 (by omega) hn (by omega)
  have r14 : fA S 14 n = a (2564 + 10 * n + 8) := hM.1.2.2.2.2.2 n 8 (by omega) hn (by omega)
  have r15 : fA S 15 n = a (2564 + 10 * n + 9) := hM.1.2.2.2.2.2 n 9 (by omega) hn (by omega)
  unfold mX2_enterSpan
  rw [rd_nI (by omega) (by omega), ob, r7, ob, rd_nI (by omega) (by omega), ob, r14, rd_nI (by omega) (by omega), ob, r8, ob, rd_nI (by omega) (by omega), ob, r15,
    i_of_int s1 g2.1, i_of_int s2 g3.1, i_of_int s8 (by omega), i_of_int s9 (by omega)]
  have dv : ∀ x : Nat, x < 1000 → nI x / 16 = nI (x / 16) := fun x hx => pk_div (d := 16) (by omega) (by omega) (by omega)
  have lf : ∀ x : Nat, x < 900 → (nI x + 16 - 1) / 16 = nI ((x + 15) / 16) := fun x hx => by
    rw [show (16 : Int32) = nI 16 from rfl, nI_add, show (1 : Int32) = nI 1 from rfl, pk_sub (by omega), show x + 16 - 1 = x + 15 by omega]; exact dv _ (by omega)
  have rg : ∀ x w : Nat, x + w < 1000 → (nI x + nI w) / 16 = nI ((x + w) / 16) := fun x w h => by rw [nI_add]; exact dv _ h
  rw [lf _ (by omega), lf _ (by omega), rg _ _ (by omega), rg _ _ (by omega)]
  obtain ⟨g, e, hg⟩ := x_span2 (z := z) (n0 := n) (left := ((sa a n 1).toNat + 15) / 16) (right := ((sa a n 1).toNat + (sa a n 8).toNat) / 16) hz (by omega) (by omega) (by omega) (end' := ((sa a n 2).toNat + (sa a n 9).toNat) / 16) (by omega) _ (((sa a n 2).toNat + 15) / 16) z S rfl (by omega) (by omega)
  refine ⟨g, e, fun q hq => ?_⟩
  rw [hg q hq]
  have key : cvB a q n = true ↔ ((((sa a n 2).toNat + 15) / 16 ≤ q / 16 ∧ q / 16 < ((sa a n 2).toNat + (sa a n 9).toNat) / 16) ∧ ((sa a n 1).toNat + 15) / 16 ≤ q % 16 ∧ q % 16 < ((sa a n 1).toNat + (sa a n 8).toNat) / 16) := by
    unfold cvB
    rw [Bool.and_eq_true, hp_iff, hp_iff]
    omega
  by_cases c : cvB a q n = true
  · rw [if_pos (key.mp c), if_pos c]
  · rw [if_neg (fun h => c (key.mpr h)), if_neg c]
/-- the chart so far: k soundings entered -/
def Chd (a : Nat → Int32) (d : Int) (k : Nat) (S : St) : Prop := ∀ q, q < 256 → (fA S 44 q).toInt = (lst a d q k).getD (-30000) ∧ (fA S 43 q).toInt = (gst a d q k).getD (-30000)
theorem Msd.sA {a : Nat → Int32} {S : St} (h : Msd a S) {j : Nat} (hj : 17 ≤ j) (g : Nat → Int32) : Msd a (sA S j g) := ⟨h.1.of (by omega) (fun _ _ => rfl) (fun k _ h => fA_ne (by omega)), fun i hi => by rw [fA_ne (by omega)]; exact h.2 i hi⟩
theorem x_enter {S : St} {a : Nat → Int32} {z n : Nat} (hz : 10000 ≤ z) (hW : WF a) (hM : Msd a S) (hn : n < ns a) (v : Int32) (hc : (thB a n v.toInt && !wtB a n) = true) (hC : Chd a v.toInt n S) : ∃ S', mX2_enter z (nI n) S = some S' ∧ (∀ j, fI S' j = fI S j) ∧ (∀ j, j ≠ 43 → j ≠ 44 → fA S' j = fA S j) ∧ Chd a v.toInt (n + 1) S' := by
  have hN := (ns_nI hW).2
  have s0 : (a (2564 + 10 * n + 0)).toInt = sa a n 0 := rfl
  have r6 : fA S 6 n = a (2564 + 10 * n + 0) := hM.1.2.2.2.2.2 n 0 (by omega) hn (by omega)
  have r7 : fA S 7 n = a (2564 + 10 * n + 1) := hM.1.2.2.2.2.2 n 1 (by omega) hn (by omega)
  have r8 : fA S 8 n = a (2564 + 10 * n + 2) := hM.1.2.2.2.2.2 n 2 (by omega) hn (by omega)
  rw [Bool.and_eq_true] at hc
  have wt : wtB a n = false := by cases h : wtB a n; rfl; rw [h] at hc; simp at hc
  have cb := (cor_b hW hn).2 (fun h => by rw [wtB_iff.mpr h] at wt; cases wt)
  have md := hM.2 n hn
  unfold mX2_enter
  rw [rd_nI (by omega) (by omega), ob, r6]
  by_cases c0 : a (2564 + 10 * n + 0) = 2
  · have c0' : sa a n 0 = 2 := by rw [← s0, c0]; rfl
    rw [if_pos c0]
    obtain ⟨g, e, hg⟩ := x_entSpan hz hW hM hn
    rw [e, ob]
    refine ⟨_, rfl, fun _ => rfl, fun j h1 h2 => fA_ne h1, fun q hq => ?_⟩
    obtain ⟨h1, h2⟩ := hC q hq
    refine ⟨?_, ?_⟩
    · rw [fA_ne (by omega), h1]
      have : fnB a v.toInt q n = false := by unfold fnB; rw [decide_eq_true c0']; rfl
      conv => rhs; unfold lst
      rw [this]; rfl
    · rw [fA_eq, hg q hq]
      have sw : swB a v.toInt n = true := by unfold swB; rw [decide_eq_true c0', hc.1, wt]; rfl
      conv => rhs; unfold gst
      rw [sw, Bool.true_and]
      cases hv : cvB a q n with
      | false => rw [if_neg Bool.false_ne_true, if_neg Bool.false_ne_true]; exact h2
      | true =>
        rw [if_pos rfl, if_pos rfl]
        unfold mx
        cases hg2 : gst a v.toInt q n with
        | none =>
          rw [hg2] at h2
          have h2' : (fA S 43 q).toInt = -30000 := h2
          rw [if_pos (by rw [i_lt, md]; omega)]
          exact md
        | some u =>
          rw [hg2] at h2
          have h2' : (fA S 43 q).toInt = u := h2
          show _ = (if cor a n ≤ u then u else cor a n)
          by_cases cc : fA S 43 q < fA S 16 n
          · rw [if_pos cc]; rw [i_lt, md, h2'] at cc; rw [if_neg (by omega), md]
          · rw [if_neg cc]; rw [i_lt, md, h2'] at cc; rw [if_pos (by omega), h2']
  · have c0' : ¬ sa a n 0 = 2 := fun h => c0 (by rw [i_eq, s0, h]; rfl)
    obtain ⟨sq, sb⟩ := sq_ok hW hn
    have sqx : mX6_squareOf S (nI n) = some (nI (sqr a n)) := by
      unfold mX6_squareOf
      rw [rd_nI (by omega) (by omega), ob, r8, rd_nI (by omega) (by omega), ob, r7, sq]
    rw [if_neg c0, sqx, ob, rd_nI (by omega) (by omega), ob]
    have gsame : ∀ q, gst a v.toInt q (n + 1) = gst a v.toInt q n := fun q => by
      have : swB a v.toInt n = false := by unfold swB; rw [decide_eq_false c0']; rfl
      conv => lhs; unfold gst
      rw [this]; rfl
    have lother : ∀ q, q ≠ sqr a n → lst a v.toInt q (n + 1) = lst a v.toInt q n := fun q hq => by
      have : fnB a v.toInt q n = false := by unfold fnB; rw [decide_eq_false (p := sqr a n = q) (fun h => hq h.symm)]; simp
      conv => lhs; unfold lst
      rw [this]; rfl
    have lthis : lst a v.toInt (sqr a n) (n + 1) = (match lst a v.toInt (sqr a n) n with | none => some (cor a n) | some u => some (if u ≤ cor a n then u else cor a n)) := by
      have : fnB a v.toInt (sqr a n) n = true := by unfold fnB; rw [decide_eq_false c0', decide_eq_true rfl, hc.1, wt]; rfl
      conv => lhs; unfold lst
      rw [this]; rfl
    obtain ⟨h1, -⟩ := hC (sqr a n) sb
    have put : (lst a v.toInt (sqr a n) (n + 1)).getD (-30000) = cor a n → ∃ S', mX2_enter_64 z (nI n) (nI (sqr a n)) S = some S' ∧ (∀ j, fI S' j = fI S j) ∧ (∀ j, j ≠ 43 → j ≠ 44 → fA S' j = fA S j) ∧ Chd a v.toInt (n + 1) S' := by
      intro hl
      unfold mX2_enter_64
      rw [rd_nI (by omega) (by omega), ob, wr_nI sb (by omega), ob]
      refine ⟨_, rfl, fun _ => rfl, fun j _ h2 => fA_ne h2, fun q hq => ?_⟩
      obtain ⟨k1, k2⟩ := hC q hq
      refine ⟨?_, by rw [fA_ne (by omega), gsame q]; exact k2⟩
      rw [fA_eq, up_e]
      by_cases cq : q = sqr a n
      · rw [if_pos cq, cq, hl, md]
      · rw [if_neg cq, lother q cq, k1]
    cases hl : lst a v.toInt (sqr a n) n with
    | none =>
      rw [hl] at h1 lthis
      have h1' : (fA S 44 (sqr a n)).toInt = -30000 := h1
      rw [if_pos ((unk_eq h1').mpr rfl)]
      exact put (by rw [lthis]; rfl)
    | some u =>
      rw [hl] at h1 lthis
      have h1' : (fA S 44 (sqr a n)).toInt = u := h1
      have ub := lst_b hW v.toInt (sqr a n) n (by omega) u hl
      rw [if_neg (fun h => by have := (unk_eq h1').mp h; omega), rd_nI (by omega) (by omega), ob, ob]
      by_cases cc : fA S 44 (sqr a n) ≤ fA S 16 n
      · rw [if_pos cc]; rw [i_le, h1', md] at cc
        refine ⟨S, rfl, fun _ => rfl, fun _ _ _ => rfl, fun q hq => ?_⟩
        obtain ⟨k1, k2⟩ := hC q hq
        refine ⟨?_, by rw [gsame q]; exact k2⟩
        by_cases cq : q = sqr a n
        · rw [cq, lthis]; show _ = (if u ≤ cor a n then u else cor a n); rw [if_pos cc, h1']
        · rw [lother q cq, k1]
      · rw [if_neg cc]; rw [i_le, h1', md] at cc
        exact put (by rw [lthis]; show (if u ≤ cor a n then u else cor a n) = _; rw [if_neg cc])
theorem x_draw2 (z : Nat) : ∀ (r k n : Nat) (S : St), k + r = 256 → r < n → ∃ g : Nat → Int32, mX2_draw_68 z n (nI k) S = some (sA S 44 g) ∧ ∀ q, q < 256 → g q = if k ≤ q ∧ fA S 44 q = (-30000) then fA S 43 q else fA S 44 q := by
  intro r
  induction r with
  | zero =>
    intro k n S hk hn
    obtain ⟨n, rfl⟩ : ∃ n', n = n' + 1 := ⟨n - 1, by omega⟩
    rw [mX2_draw_68]; unfold mX2_draw_68b
    rw [if_pos (by rw [show (256 : Int32) = nI 256 from rfl, nI_leI (by omega) (by omega)]; omega)]
    exact ⟨fA S 44, by rw [sA_self], fun q hq => by rw [if_neg (by omega)]⟩
  | succ r ih =>
    intro k n S hk hn
    obtain ⟨n, rfl⟩ : ∃ n', n = n' + 1 := ⟨n - 1, by omega⟩
    rw [mX2_draw_68]; unfold mX2_draw_68b
    rw [if_neg (by rw [show (256 : Int32) = nI 256 from rfl, nI_leI (by omega) (by omega)]; omega), rd_nI (by omega) (by omega), ob, nI_1]
    by_cases c : fA S 44 k = (-30000)
    · rw [if_pos c, rd_nI (by omega) (by omega), ob, wr_nI (by omega) (by omega), ob]
      obtain ⟨g, e, hg⟩ := ih (k + 1) n (sA S 44 (upd (fA S 44) k (fA S 43 k))) (by omega) (by omega)
      refine ⟨g, by rw [e, sA_sA], fun q hq => ?_⟩
      rw [hg q hq, fA_eq, fA_ne (by omega), up_e]
      by_cases cq : q = k
      · subst cq
        rw [if_neg (by omega), if_pos rfl, if_pos ⟨by omega, c⟩]
      · rw [if_neg cq]
        by_cases c2 : k ≤ q ∧ fA S 44 q = (-30000)
        · rw [if_pos ⟨by omega, c2.2⟩, if_pos c2]
        · rw [if_neg (fun h => c2 ⟨by omega, h.2⟩), if_neg c2]
    · rw [if_neg c]
      obtain ⟨g, e, hg⟩ := ih (k + 1) n S (by omega) (by omega)
      refine ⟨g, e, fun q hq => ?_⟩
      rw [hg q hq]
      by_cases c2 : k ≤ q ∧ fA S 44 q = (-30000)
      · have : q ≠ k := fun h => c (by rw [← h]; exact c2.2)
        rw [if_pos ⟨by omega, c2.2⟩, if_pos c2]
      · rw [if_neg (fun h => c2 ⟨by omega, h.2⟩), if_neg c2]
theorem x_draw1 {a : Nat → Int32} {z : Nat} (hz : 10000 ≤ z) (hW : WF a) (v : Int32) : ∀ (r k n : Nat) (S : St), k + r = ns a → r < n → Msd a S → Chd a v.toInt k S → ∃ S', mX2_draw_29 z v n (nI k) S = some S' ∧ (∀ j, fI S' j = fI S j) ∧ (∀ j, j ≠ 43 → j ≠ 44 → fA S' j = fA S j) ∧ ∀ q, q < 256 → (fA S' 44 q).toInt = dep a v.toInt q := by
  obtain ⟨e1, hN⟩ := ns_nI hW
  intro r
  induction r with
  | zero =>
    intro k n S hk hn hM hC
    obtain ⟨n, rfl⟩ : ∃ n', n = n' + 1 := ⟨n - 1, by omega⟩
    have hkk : k = ns a := by omega
    subst hkk
    rw [mX2_draw_29]; unfold mX2_draw_29b
    rw [hM.1.2.1, e1, if_pos (by rw [nI_leI (by omega) (by omega)]; omega)]
    obtain ⟨g, e, hg⟩ := x_draw2 z 256 0 z S (by omega) (by omega)
    refine ⟨_, e, fun _ => rfl, fun j _ h => fA_ne h, fun q hq => ?_⟩
    obtain ⟨h1, h2⟩ := hC q hq
    rw [fA_eq, hg q hq]
    unfold dep
    cases hl : lst a v.toInt q (ns a) with
    | none =>
      rw [hl] at h1
      have h1' : (fA S 44 q).toInt = -30000 := h1
      rw [if_pos ⟨by omega, (unk_eq h1').mpr rfl⟩]; exact h2
    | some u =>
      rw [hl] at h1
      have h1' : (fA S 44 q).toInt = u := h1
      have ub := lst_b hW v.toInt q (ns a) (by omega) u hl
      rw [if_neg (fun h => by have := (unk_eq h1').mp h.2; omega)]; exact h1'
  | succ r ih =>
    intro k n S hk hn hM hC
    obtain ⟨n, rfl⟩ : ∃ n', n = n' + 1 := ⟨n - 1, by omega⟩
    rw [mX2_draw_29]; unfold mX2_draw_29b
    rw [hM.1.2.1, e1, if_neg (by rw [nI_leI (by omega) (by omega)]; omega), x_counts hW hM (by omega), ob, if01, nI_1]
    cases hc : (thB a k v.toInt && !wtB a k) with
    | false =>
      rw [if_neg Bool.false_ne_true]
      refine ih (k + 1) n S (by omega) (by omega) hM (fun q hq => ?_)
      have f1 : fnB a v.toInt q k = false := by unfold fnB; rw [hc]; simp
      have f2 : swB a v.toInt k = false := by unfold swB; rw [hc]; simp
      have := hC q hq
      unfold lst gst
      rw [f1, f2]; exact this
    | true =>
      rw [if_pos rfl]
      obtain ⟨S1, e, i1, a1, c1⟩ := x_enter hz hW hM (by omega) v hc hC
      rw [e, ob]
      have hM1 : Msd a S1 := ⟨hM.1.of (by omega) (fun j _ => i1 j) (fun j _ h => a1 j (by omega) (by omega)), fun i hi => by rw [a1 16 (by omega) (by omega)]; exact hM.2 i hi⟩
      obtain ⟨S', f1, f2, f3, f4⟩ := ih (k + 1) n S1 (by omega) (by omega) hM1 c1
      exact ⟨S', f1, fun j => (f2 j).trans (i1 j), fun j h1 h2 => (f3 j h1 h2).trans (a1 j h1 h2), f4⟩
/-- the class's chart drawn: every square's DEPTH -/
theorem x_draw {S : St} {a : Nat → Int32} {z : Nat} (hz : 10000 ≤ z) (hW : WF a) (hR : Rel 0 S a) (v : Int32) : ∃ S', mX2_draw z v S = some S' ∧ (∀ j, fI S' j = fI S j) ∧ (∀ j, j ≠ 16 → j ≠ 43 → j ≠ 44 → fA S' j = fA S j) ∧ ∀ q, q < 256 → (fA S' 44 q).toInt = dep a v.toInt q := by
  obtain ⟨e1, hN⟩ := ns_nI hW
  unfold mX2_draw mX7_measure mJ7_fill_X57 mJ7_fill_X56
  rw [show (0 : Int32) = nI 0 from rfl]
  obtain ⟨S1, f1, f2, f3, f4, -⟩ := x_measL hz hW (ns a) 0 z S (by omega) (by omega) hR
  rw [f1, ob]
  have hM : Msd a S1 := ⟨hR.of (by omega) (fun j _ => f2 j) (fun j _ h => f3 j (by omega)), fun i hi => f4 i (by omega) hi⟩
  obtain ⟨g, e2, hg⟩ := x_fill44 z (-30000) 256 0 z S1 (by omega) (by omega)
  rw [e2, ob]
  obtain ⟨g3, e3, hg3⟩ := x_fill43 z (-30000) 256 0 z (sA S1 44 g) (by omega) (by omega)
  rw [e3, ob]
  obtain ⟨S', k1, k2, k3, k4⟩ := x_draw1 hz hW v (ns a) 0 z (sA (sA S1 44 g) 43 g3) (by omega) (by omega) ((hM.sA (by omega) g).sA (by omega) g3) (fun q hq => by
    refine ⟨?_, ?_⟩
    · rw [fA_ne (by omega), fA_eq, hg q hq, if_pos (by omega)]; rfl
    · rw [fA_eq, hg3 q hq, if_pos (by omega)]; rfl)
  refine ⟨S', k1, fun j => (k2 j).trans (f2 j), fun j h1 h2 h3 => ?_, k4⟩
  rw [k3 j h2 h3, fA_ne h2, fA_ne h3, f3 j h1]
theorem px_of {S S' : St} (h1 : ∀ j, fI S' j = fI S j) (h2 : ∀ j, j ≠ 16 → j ≠ 43 → j ≠ 44 → fA S' j = fA S j) : PX S S' := ⟨fun k _ => h1 k, fun k h _ hk => h2 k h (by omega) (by omega)⟩
theorem p_bottom {z : Nat} (hz : 10000 ≤ z) : ok_bottom z Inv := by
  intro Sx Sy v1 v2 hI
  unfold mX9_bottom mX10_bottom
  rw [x_day, ob, y_in2 (B := 0) (C := 99) rfl rfl, ob]
  by_cases c1 : 0 ≤ v1.toInt ∧ v1.toInt ≤ 99
  · rw [if_pos c1, if_neg one_ne, if_neg one_ne, x_sq, ob, y_in2 (B := 0) (C := 255) rfl rfl, ob]
    by_cases c2 : 0 ≤ v2.toInt ∧ v2.toInt ≤ 255
    · obtain ⟨q, rfl, hq⟩ := i_ex c2.1
      rw [if_pos c2, if_neg one_ne, if_neg one_ne]
      obtain ⟨X, ex, i1, a1, d1⟩ := x_draw hz hI.2.1 hI.1 v1
      obtain ⟨w, Y, ey', hw, l⟩ := y_depthOf (S := Sy) hz rfl hI.2.1 (q := q) (by omega) v1
      rw [ex, ob, rd_nI (by omega) (by omega), ob, ey', ob]
      exact ⟨_, _, rfl, rfl, (by rw [i_eq]; exact (d1 q (by omega)).trans hw.symm), hI.keep (px_of i1 a1) l.py⟩
    · rw [if_neg c2, if_pos rfl, if_pos rfl]
      exact ⟨_, _, rfl, rfl, rfl, hI⟩
  · rw [if_neg c1, if_pos rfl, if_pos rfl]
    exact ⟨_, _, rfl, rfl, rfl, hI⟩
theorem p_check {z : Nat} (hz : 10000 ≤ z) : ok_check z Inv := by
  intro Sx Sy v1 v2 v3 hI
  unfold mX9_check mX10_check
  rw [x_day, ob, y_in2 (B := 0) (C := 99) rfl rfl, ob]
  by_cases c1 : 0 ≤ v1.toInt ∧ v1.toInt ≤ 99
  · rw [if_pos c1, if_neg one_ne, if_neg one_ne, x_sq, ob, y_in2 (B := 0) (C := 255) rfl rfl, ob]
    by_cases c2 : 0 ≤ v2.toInt ∧ v2.toInt ≤ 255
    · obtain ⟨q, rfl, hq⟩ := i_ex c2.1
      rw [if_pos c2, if_neg one_ne, if_neg one_ne]
      obtain ⟨X, ex, i1, a1, d1⟩ := x_draw hz hI.2.1 hI.1 v1
      obtain ⟨w, Y, ey', hw, l⟩ := y_depthOf (S := Sy) hz rfl hI.2.1 (q := q) (by omega) v1
      have ew : fA X 44 q = w := by rw [i_eq]; exact (d1 q (by omega)).trans hw.symm
      rw [ex, ob, rd_nI (by omega) (by omega), ob, ey', ob, ew]
      dsimp only
      have kp := hI.keep (px_of i1 a1) l.py
      by_cases k0 : w = (-30000)
      · rw [if_pos k0, if_pos k0]; exact ⟨_, _, rfl, rfl, rfl, kp⟩
      rw [if_neg k0, if_neg k0]
      by_cases k1 : w = v3
      · subst k1
        rw [if_pos rfl, if_pos (by rw [i_le]; omega), if_pos (by rw [i_le]; omega)]; exact ⟨_, _, rfl, rfl, rfl, kp⟩
      rw [if_neg k1]
      by_cases k2 : v3 ≤ w
      · rw [if_pos k2, if_pos k2, if_neg (by rw [i_eq] at k1; rw [i_le] at k2 ⊢; omega)]; exact ⟨_, _, rfl, rfl, rfl, kp⟩
      · rw [if_neg k2, if_neg k2]; exact ⟨_, _, rfl, rfl, rfl, kp⟩
    · rw [if_neg c2, if_pos rfl, if_pos rfl]
      exact ⟨_, _, rfl, rfl, rfl, hI⟩
  · rw [if_neg c1, if_pos rfl, if_pos rfl]
    exact ⟨_, _, rfl, rfl, rfl, hI⟩
