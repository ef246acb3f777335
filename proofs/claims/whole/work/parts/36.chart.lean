/-! PURE: what is THERE, FOUND, SWEPT; the DEPTH of a square -/
def thB (a : Nat → Int32) (n : Nat) (d : Int) : Bool := decide (sa a n 4 ≤ d) && decide (d < sa a n 7)
def wtB (a : Nat → Int32) (n : Nat) : Bool := decide (sa a n 0 < 3) && (tide a (sa a n 4).toNat (sa a n 6)).isNone
theorem wtB_iff {a : Nat → Int32} {n : Nat} : wtB a n = true ↔ wts a n := by
  unfold wtB wts
  rw [Bool.and_eq_true, decide_eq_true_iff, Option.isNone_iff_eq_none]
def sqr (a : Nat → Int32) (n : Nat) : Nat := 16 * ((sa a n 2).toNat / 16) + (sa a n 1).toNat / 16
def fnB (a : Nat → Int32) (d : Int) (q n : Nat) : Bool := !decide (sa a n 0 = 2) && (decide (sqr a n = q) && (thB a n d && !wtB a n))
def swB (a : Nat → Int32) (d : Int) (n : Nat) : Bool := decide (sa a n 0 = 2) && (thB a n d && !wtB a n)
def hpB (a : Nat → Int32) (n : Nat) (x y : Int) : Bool := decide (sa a n 1 ≤ x) && (decide (x < sa a n 1 + sa a n 8) && (decide (sa a n 2 ≤ y) && decide (y < sa a n 2 + sa a n 9)))
def cvB (a : Nat → Int32) (q n : Nat) : Bool := hpB a n (16 * (q % 16) : Nat) (16 * (q / 16) : Nat) && hpB a n ((16 * (q % 16) : Nat) + 15) ((16 * (q / 16) : Nat) + 15)
def lst (a : Nat → Int32) (d : Int) (q : Nat) : Nat → Option Int
  | 0 => none
  | k + 1 => if fnB a d q k then (match lst a d q k with | none => some (cor a k) | some v => some (if v ≤ cor a k then v else cor a k)) else lst a d q k
def gst (a : Nat → Int32) (d : Int) (q : Nat) : Nat → Option Int
  | 0 => none
  | k + 1 => if swB a d k && cvB a q k then (match gst a d q k with | none => some (cor a k) | some v => some (if cor a k ≤ v then v else cor a k)) else gst a d q k
def dep (a : Nat → Int32) (d : Int) (q : Nat) : Int := match lst a d q (ns a) with
  | some v => v
  | none => (gst a d q (ns a)).getD (-30000)
theorem lst_b {a : Nat → Int32} (hW : WF a) (d : Int) (q : Nat) : ∀ k, k ≤ ns a → ∀ v, lst a d q k = some v → -251 ≤ v ∧ v ≤ 20200 := by
  intro k
  induction k with
  | zero => intro _ v h; cases h
  | succ k ih =>
    intro hk v h
    unfold lst at h
    split at h
    · rename_i c
      have w : ¬ wts a k := fun h => by
        rw [← wtB_iff] at h; unfold fnB at c; rw [h] at c; simp at c
      have b := (cor_b hW (n := k) (by omega)).2 w
      split at h
      · cases h; exact b
      · rename_i u hu
        have := ih (by omega) u hu
        cases h
        split <;> omega
    · exact ih (by omega) v h
theorem gst_b {a : Nat → Int32} (hW : WF a) (d : Int) (q : Nat) : ∀ k, k ≤ ns a → ∀ v, gst a d q k = some v → -251 ≤ v ∧ v ≤ 20200 := by
  intro k
  induction k with
  | zero => intro _ v h; cases h
  | succ k ih =>
    intro hk v h
    unfold gst at h
    split at h
    · rename_i c
      have w : ¬ wts a k := fun h => by
        rw [← wtB_iff] at h; unfold swB at c; rw [h] at c; simp at c
      have b := (cor_b hW (n := k) (by omega)).2 w
      split at h
      · cases h; exact b
      · rename_i u hu
        have := ih (by omega) u hu
        cases h
        split <;> omega
    · exact ih (by omega) v h
theorem dep_b {a : Nat → Int32} (hW : WF a) (d : Int) (q : Nat) : dep a d q = -30000 ∨ (-251 ≤ dep a d q ∧ dep a d q ≤ 20200) := by
  unfold dep
  cases h : lst a d q (ns a) with
  | some v => exact Or.inr (lst_b hW d q _ (Nat.le_refl _) v h)
  | none =>
    cases g : gst a d q (ns a) with
    | some v => exact Or.inr (gst_b hW d q _ (Nat.le_refl _) v g)
    | none => exact Or.inl rfl
-- the reference
theorem b01 (b : Bool) : (if (if b then (1 : Int32) else 0) = 0 then True else False) ↔ b = false := by cases b <;> simp
theorem y_there {S : St} {a : Nat → Int32} (e0 : fA S 0 = a) {n : Nat} (hn : n < 200) (v : Int32) : mX10_isThere S (nI n) v = some (if thB a n v.toInt then 1 else 0) := by
  unfold mX10_isThere thB
  have s4 : (a (2564 + 10 * n + 4)).toInt = sa a n 4 := rfl
  have s7 : (a (2564 + 10 * n + 7)).toInt = sa a n 7 := rfl
  rw [y_o4 e0 hn, ob]
  by_cases c : v < a (2564 + 10 * n + 4)
  · rw [if_pos c]; rw [i_lt, s4] at c
    rw [decide_eq_false (show ¬ sa a n 4 ≤ v.toInt by omega)]; rfl
  · rw [if_neg c, y_o7 e0 hn, ob]; rw [i_lt, s4] at c
    by_cases c2 : a (2564 + 10 * n + 7) ≤ v
    · rw [if_pos c2]; rw [i_le, s7] at c2
      rw [decide_eq_false (show ¬ v.toInt < sa a n 7 by omega), Bool.and_false]; rfl
    · rw [if_neg c2]; rw [i_le, s7] at c2
      rw [decide_eq_true (show sa a n 4 ≤ v.toInt by omega), decide_eq_true (show v.toInt < sa a n 7 by omega)]; rfl
theorem y_wt {S : St} {a : Nat → Int32} {z n : Nat} (hz : 10000 ≤ z) (e0 : fA S 0 = a) (hW : WF a) (hn : n < ns a) : ∃ S' : St, mX10_waits z (nI n) S = some (if wtB a n then 1 else 0, S') ∧ Lo S S' := by
  obtain ⟨r, S', e, l, h⟩ := y_waits hz e0 hW hn
  refine ⟨S', ?_, l⟩
  rcases h with ⟨h, rfl⟩ | ⟨h, rfl⟩
  · rw [e, wtB_iff.mpr h]; rfl
  · rw [← wtB_iff] at h; rw [e, eq_false_of_ne_true h]; rfl
theorem sq_ok {a : Nat → Int32} (hW : WF a) {n : Nat} (hn : n < ns a) : (16 : Int32) * (a (2564 + 10 * n + 2) / 16) + a (2564 + 10 * n + 1) / 16 = nI (sqr a n) ∧ sqr a n < 256 := by
  have hN := (ns_nI hW).2
  obtain ⟨g1, g2, g3, -⟩ := hW.2.2.2.2.2 n (by omega) hn
  have s1 : (a (2564 + 10 * n + 1)).toInt = sa a n 1 := rfl
  have s2 : (a (2564 + 10 * n + 2)).toInt = sa a n 2 := rfl
  refine ⟨?_, by unfold sqr; omega⟩
  rw [i_of_int s1 g2.1, i_of_int s2 g3.1, show (16 : Int32) = nI 16 from rfl, pk_div (by omega) (by omega) (by omega), pk_div (by omega) (by omega) (by omega), pk_mul, nI_add]
  rfl
theorem y_found {S : St} {a : Nat → Int32} {z n q : Nat} (hz : 10000 ≤ z) (e0 : fA S 0 = a) (hW : WF a) (hn : n < ns a) (hq : q < 256) (v : Int32) : ∃ S' : St, mX10_isFound z (nI n) v (nI q) S = some (if fnB a v.toInt q n then 1 else 0, S') ∧ Lo S S' := by
  have hN := (ns_nI hW).2
  have s0 : (a (2564 + 10 * n + 0)).toInt = sa a n 0 := rfl
  unfold mX10_isFound fnB
  rw [y_o0 e0 (by omega), ob]
  by_cases c0 : a (2564 + 10 * n + 0) = 2
  · have c0' : sa a n 0 = 2 := by rw [← s0, c0]; rfl
    rw [if_pos c0, decide_eq_true c0']
    exact ⟨S, rfl, Lo.rf S⟩
  · have c0' : ¬ sa a n 0 = 2 := fun h => c0 (by rw [i_eq, s0, h]; rfl)
    rw [if_neg c0, decide_eq_false c0', y_o1 e0 (by omega), ob, y_o2 e0 (by omega), ob]
    unfold mX10_squareOf
    obtain ⟨sq, sb⟩ := sq_ok hW hn
    rw [ob, sq]
    by_cases c1 : sqr a n = q
    · rw [if_pos (by rw [c1]), decide_eq_true c1, y_there e0 (by omega), ob]
      cases ht : thB a n v.toInt with
      | false => exact ⟨S, rfl, Lo.rf S⟩
      | true =>
        rw [if_pos rfl, if_neg one_ne]
        obtain ⟨S', e, l⟩ := y_wt hz e0 hW hn
        rw [e, ob]
        cases hw : wtB a n with
        | false => exact ⟨S', rfl, l⟩
        | true => exact ⟨S', rfl, l⟩
    · rw [if_neg (by rw [nI_eq (by omega) (by omega)]; exact c1), decide_eq_false c1]
      exact ⟨S, rfl, Lo.rf S⟩
theorem y_swept {S : St} {a : Nat → Int32} {z n : Nat} (hz : 10000 ≤ z) (e0 : fA S 0 = a) (hW : WF a) (hn : n < ns a) (v : Int32) : ∃ S' : St, mX10_isSwept z (nI n) v S = some (if swB a v.toInt n then 1 else 0, S') ∧ Lo S S' := by
  have hN := (ns_nI hW).2
  have s0 : (a (2564 + 10 * n + 0)).toInt = sa a n 0 := rfl
  unfold mX10_isSwept swB
  rw [y_o0 e0 (by omega), ob]
  by_cases c0 : a (2564 + 10 * n + 0) = 2
  · have c0' : sa a n 0 = 2 := by rw [← s0, c0]; rfl
    rw [if_pos c0, decide_eq_true c0', y_there e0 (by omega), ob]
    cases ht : thB a n v.toInt with
    | false => exact ⟨S, rfl, Lo.rf S⟩
    | true =>
      rw [if_pos rfl, if_neg one_ne]
      obtain ⟨S', e, l⟩ := y_wt hz e0 hW hn
      rw [e, ob]
      cases hw : wtB a n with
      | false => exact ⟨S', rfl, l⟩
      | true => exact ⟨S', rfl, l⟩
  · have c0' : ¬ sa a n 0 = 2 := fun h => c0 (by rw [i_eq, s0, h]; rfl)
    rw [if_neg c0, decide_eq_false c0']
    exact ⟨S, rfl, Lo.rf S⟩
theorem y_place {S : St} {a : Nat → Int32} {n : Nat} (e0 : fA S 0 = a) (hW : WF a) (hn : n < ns a) (x y : Int32) : mX10_hasPlace S (nI n) x y = some (if hpB a n x.toInt y.toInt then 1 else 0) := by
  have hN := (ns_nI hW).2
  obtain ⟨g1, g2, g3, g4, g5, g6, g7, g8, g9, g10⟩ := hW.2.2.2.2.2 n (by omega) hn
  have s1 : (a (2564 + 10 * n + 1)).toInt = sa a n 1 := rfl
  have s2 : (a (2564 + 10 * n + 2)).toInt = sa a n 2 := rfl
  have s8 : (a (2564 + 10 * n + 8)).toInt = sa a n 8 := rfl
  have s9 : (a (2564 + 10 * n + 9)).toInt = sa a n 9 := rfl
  have t1 : (a (2564 + 10 * n + 1) + a (2564 + 10 * n + 8)).toInt = sa a n 1 + sa a n 8 := by rw [ti_add (by rw [s1, s8]; omega) (by rw [s1, s8]; omega), s1, s8]
  have t2 : (a (2564 + 10 * n + 2) + a (2564 + 10 * n + 9)).toInt = sa a n 2 + sa a n 9 := by rw [ti_add (by rw [s2, s9]; omega) (by rw [s2, s9]; omega), s2, s9]
  unfold mX10_hasPlace hpB
  rw [y_o1 e0 (by omega), ob]
  by_cases c1 : x < a (2564 + 10 * n + 1)
  · rw [if_pos c1]; rw [i_lt, s1] at c1
    rw [decide_eq_false (show ¬ sa a n 1 ≤ x.toInt by omega)]; rfl
  rw [if_neg c1, ob, y_o8 e0 (by omega), ob]; rw [i_lt, s1] at c1
  rw [decide_eq_true (show sa a n 1 ≤ x.toInt by omega), Bool.true_and]
  by_cases c2 : a (2564 + 10 * n + 1) + a (2564 + 10 * n + 8) ≤ x
  · rw [if_pos c2]; rw [i_le, t1] at c2
    rw [decide_eq_false (show ¬ x.toInt < sa a n 1 + sa a n 8 by omega)]; rfl
  rw [if_neg c2, y_o2 e0 (by omega), ob]; rw [i_le, t1] at c2
  rw [decide_eq_true (show x.toInt < sa a n 1 + sa a n 8 by omega), Bool.true_and]
  by_cases c3 : y < a (2564 + 10 * n + 2)
  · rw [if_pos c3]; rw [i_lt, s2] at c3
    rw [decide_eq_false (show ¬ sa a n 2 ≤ y.toInt by omega)]; rfl
  rw [if_neg c3, ob, y_o9 e0 (by omega), ob]; rw [i_lt, s2] at c3
  rw [decide_eq_true (show sa a n 2 ≤ y.toInt by omega), Bool.true_and]
  by_cases c4 : a (2564 + 10 * n + 2) + a (2564 + 10 * n + 9) ≤ y
  · rw [if_pos c4]; rw [i_le, t2] at c4
    rw [decide_eq_false (show ¬ y.toInt < sa a n 2 + sa a n 9 by omega)]; rfl
  rw [if_neg c4]; rw [i_le, t2] at c4
  rw [decide_eq_true (show y.toInt < sa a n 2 + sa a n 9 by omega)]; rfl
/-- a depth or none, as the reference carries it -/
def Enc (o : Option Int) (v f : Int32) : Prop := (o = none ∧ v.toInt = -30000 ∧ f = 0) ∨ ∃ x, o = some x ∧ v.toInt = x ∧ f = 1
theorem Enc.val {o : Option Int} {v f : Int32} (h : Enc o v f) : v.toInt = o.getD (-30000) := by
  rcases h with ⟨rfl, h, -⟩ | ⟨x, rfl, h, -⟩
  · exact h
  · exact h
theorem if01 {α : Type} (b : Bool) (x y : α) : (if (if b = true then (1 : Int32) else 0) = 0 then x else y) = if b = true then y else x := by cases b <;> rfl
theorem y_dep2 {a : Nat → Int32} {z q : Nat} (hz : 10000 ≤ z) (hW : WF a) (hq : q < 256) (v : Int32) : ∀ (r k n : Nat) (f w : Int32) (S : St), k + r = ns a → r < n → fA S 0 = a → Enc (gst a v.toInt q k) w f → ∃ (w' : Int32) (S' : St), mX10_depthOf_103 z v (nI (16 * (q % 16))) (nI (16 * (q / 16))) n f w (nI k) S = some (w', S') ∧ w'.toInt = (gst a v.toInt q (ns a)).getD (-30000) ∧ Lo S S' := by
  obtain ⟨e1, hN⟩ := ns_nI hW
  intro r
  induction r with
  | zero =>
    intro k n f w S hk hn hS he
    obtain ⟨n, rfl⟩ : ∃ n', n = n' + 1 := ⟨n - 1, by omega⟩
    have hkk : k = ns a := by omega
    subst hkk
    rw [mX10_depthOf_103]; unfold mX10_depthOf_103b
    rw [rd_1 (by omega) (by omega), ob, hS, e1, if_pos (by rw [nI_leI (by omega) (by omega)]; omega)]
    exact ⟨w, S, rfl, he.val, Lo.rf S⟩
  | succ r ih =>
    intro k n f w S hk hn hS he
    obtain ⟨n, rfl⟩ : ∃ n', n = n' + 1 := ⟨n - 1, by omega⟩
    rw [mX10_depthOf_103]; unfold mX10_depthOf_103b
    obtain ⟨S1, es, l1⟩ := y_swept hz hS hW (n := k) (by omega) v
    have h1 : fA S1 0 = a := (l1.a 0).trans hS
    rw [rd_1 (by omega) (by omega), ob, hS, e1, if_neg (by rw [nI_leI (by omega) (by omega)]; omega), es, ob, nI_1]
    dsimp only
    rw [if01]
    have stay : ∀ (c : (swB a v.toInt k && cvB a q k) = false), ∃ (w' : Int32) (S' : St), mX10_depthOf_103 z v (nI (16 * (q % 16))) (nI (16 * (q / 16))) n f w (nI (k + 1)) S1 = some (w', S') ∧ w'.toInt = (gst a v.toInt q (ns a)).getD (-30000) ∧ Lo S S' := by
      intro c
      obtain ⟨w', S', x1, x2, x3⟩ := ih (k + 1) n f w S1 (by omega) (by omega) h1 (by unfold gst; rw [c]; exact he)
      exact ⟨w', S', x1, x2, l1.tr x3⟩
    cases hs : swB a v.toInt k with
    | false =>
      rw [if_neg Bool.false_ne_true]
      exact stay (by rw [hs]; rfl)
    | true =>
      rw [if_pos rfl, y_place h1 hW (by omega), ob, if01]
      have t0 : (nI (16 * (q % 16))).toInt = ((16 * (q % 16) : Nat) : Int) := nI_ti (by omega)
      have t1 : (nI (16 * (q / 16))).toInt = ((16 * (q / 16) : Nat) : Int) := nI_ti (by omega)
      have t2 : (nI (16 * (q % 16)) + 15).toInt = ((16 * (q % 16) : Nat) : Int) + 15 := by rw [show (15 : Int32) = nI 15 from rfl, nI_add, nI_ti (by omega)]; omega
      have t3 : (nI (16 * (q / 16)) + 15).toInt = ((16 * (q / 16) : Nat) : Int) + 15 := by rw [show (15 : Int32) = nI 15 from rfl, nI_add, nI_ti (by omega)]; omega
      rw [t0, t1]
      cases hp : hpB a k ((16 * (q % 16) : Nat) : Int) ((16 * (q / 16) : Nat) : Int) with
      | false =>
        rw [if_neg Bool.false_ne_true]
        exact stay (by unfold cvB; rw [hp]; simp)
      | true =>
        rw [if_pos rfl, y_place h1 hW (by omega), ob, t2, t3, if01]
        cases hp2 : hpB a k (((16 * (q % 16) : Nat) : Int) + 15) (((16 * (q / 16) : Nat) : Int) + 15) with
        | false =>
          rw [if_neg Bool.false_ne_true]
          exact stay (by unfold cvB; rw [hp2]; simp)
        | true =>
          rw [if_pos rfl]
          obtain ⟨c, S2, ec, hc, l2⟩ := y_cor hz h1 hW (n := k) (by omega)
          rw [ec, ob]
          have gs : gst a v.toInt q (k + 1) = (match gst a v.toInt q k with | none => some (cor a k) | some u => some (if cor a k ≤ u then u else cor a k)) := by
            conv => lhs; unfold gst
            rw [if_pos (by unfold cvB; rw [hs, hp, hp2]; rfl)]
          have h2 : fA S2 0 = a := (l2.a 0).trans h1
          have go : ∀ w2 : Int32, Enc (gst a v.toInt q (k + 1)) w2 1 → ∃ (w' : Int32) (S' : St), mX10_depthOf_103 z v (nI (16 * (q % 16))) (nI (16 * (q / 16))) n 1 w2 (nI (k + 1)) S2 = some (w', S') ∧ w'.toInt = (gst a v.toInt q (ns a)).getD (-30000) ∧ Lo S S' := by
            intro w2 he2
            obtain ⟨w', S', x1, x2, x3⟩ := ih (k + 1) n 1 w2 S2 (by omega) (by omega) h2 he2
            exact ⟨w', S', x1, x2, (l1.tr l2).tr x3⟩
          rcases he with ⟨g0, hw, rfl⟩ | ⟨u, g0, hw, rfl⟩
          · rw [if_pos rfl]
            rw [g0] at gs
            exact go c (Or.inr ⟨_, gs, hc, rfl⟩)
          · rw [if_neg one_ne]
            rw [g0] at gs
            by_cases cc : c ≤ w
            · rw [if_pos cc]; rw [i_le, hc, hw] at cc
              exact go w (Or.inr ⟨_, gs, by rw [if_pos cc]; exact hw, rfl⟩)
            · rw [if_neg cc]; rw [i_le, hc, hw] at cc
              exact go c (Or.inr ⟨_, gs, by rw [if_neg cc]; exact hc, rfl⟩)
theorem y_dep1 {a : Nat → Int32} {z q : Nat} (hz : 10000 ≤ z) (hW : WF a) (hq : q < 256) (v : Int32) : ∀ (r k n : Nat) (w f : Int32) (S : St), k + r = ns a → r < n → fA S 0 = a → Enc (lst a v.toInt q k) w f → ∃ (w' : Int32) (S' : St), mX10_depthOf_10 z v (nI q) n w f (nI k) S = some (w', S') ∧ w'.toInt = dep a v.toInt q ∧ Lo S S' := by
  obtain ⟨e1, hN⟩ := ns_nI hW
  intro r
  induction r with
  | zero =>
    intro k n w f S hk hn hS he
    obtain ⟨n, rfl⟩ : ∃ n', n = n' + 1 := ⟨n - 1, by omega⟩
    have hkk : k = ns a := by omega
    subst hkk
    rw [mX10_depthOf_10]; unfold mX10_depthOf_10b mX10_depthOf_70
    rw [rd_1 (by omega) (by omega), ob, hS, e1, if_pos (by rw [nI_leI (by omega) (by omega)]; omega)]
    rcases he with ⟨g0, hw, rfl⟩ | ⟨u, g0, hw, rfl⟩
    · rw [if_pos rfl]
      have ex : (16 : Int32) * (nI q - nI q / 16 * 16) = nI (16 * (q % 16)) := by
        rw [show (16 : Int32) = nI 16 from rfl, pk_rem (by omega) (by omega) (by omega), pk_mul]
      have ey : (16 : Int32) * (nI q / 16) = nI (16 * (q / 16)) := by
        rw [show (16 : Int32) = nI 16 from rfl, pk_div (by omega) (by omega) (by omega), pk_mul]
      rw [ex, ey]
      obtain ⟨w', S', x1, x2, x3⟩ := y_dep2 hz hW hq v (ns a) 0 z 0 (-30000) S (by omega) (by omega) hS (Or.inl ⟨rfl, rfl, rfl⟩)
      refine ⟨w', S', x1, ?_, x3⟩
      rw [x2]; unfold dep; rw [g0]
    · rw [if_neg one_ne]
      refine ⟨w, S, rfl, ?_, Lo.rf S⟩
      rw [hw]; unfold dep; rw [g0]
  | succ r ih =>
    intro k n w f S hk hn hS he
    obtain ⟨n, rfl⟩ : ∃ n', n = n' + 1 := ⟨n - 1, by omega⟩
    rw [mX10_depthOf_10]; unfold mX10_depthOf_10b
    obtain ⟨S1, es, l1⟩ := y_found hz hS hW (n := k) (by omega) hq v
    have h1 : fA S1 0 = a := (l1.a 0).trans hS
    rw [rd_1 (by omega) (by omega), ob, hS, e1, if_neg (by rw [nI_leI (by omega) (by omega)]; omega), es, ob, nI_1]
    dsimp only
    rw [if01]
    cases hs : fnB a v.toInt q k with
    | false =>
      rw [if_neg Bool.false_ne_true]
      obtain ⟨w', S', x1, x2, x3⟩ := ih (k + 1) n w f S1 (by omega) (by omega) h1 (by unfold lst; rw [hs]; exact he)
      exact ⟨w', S', x1, x2, l1.tr x3⟩
    | true =>
      rw [if_pos rfl]
      obtain ⟨c, S2, ec, hc, l2⟩ := y_cor hz h1 hW (n := k) (by omega)
      rw [ec, ob]
      have gs : lst a v.toInt q (k + 1) = (match lst a v.toInt q k with | none => some (cor a k) | some u => some (if u ≤ cor a k then u else cor a k)) := by
        conv => lhs; unfold lst
        rw [if_pos hs]
      have h2 : fA S2 0 = a := (l2.a 0).trans h1
      have go : ∀ w2 : Int32, Enc (lst a v.toInt q (k + 1)) w2 1 → ∃ (w' : Int32) (S' : St), mX10_depthOf_10 z v (nI q) n w2 1 (nI (k + 1)) S2 = some (w', S') ∧ w'.toInt = dep a v.toInt q ∧ Lo S S' := by
        intro w2 he2
        obtain ⟨w', S', x1, x2, x3⟩ := ih (k + 1) n w2 1 S2 (by omega) (by omega) h2 he2
        exact ⟨w', S', x1, x2, (l1.tr l2).tr x3⟩
      rcases he with ⟨g0, hw, rfl⟩ | ⟨u, g0, hw, rfl⟩
      · rw [if_pos rfl]
        rw [g0] at gs
        exact go c (Or.inr ⟨_, gs, hc, rfl⟩)
      · rw [if_neg one_ne]
        rw [g0] at gs
        by_cases cc : w ≤ c
        · rw [if_pos cc]; rw [i_le, hc, hw] at cc
          exact go w (Or.inr ⟨_, gs, by rw [if_pos cc]; exact hw, rfl⟩)
        · rw [if_neg cc]; rw [i_le, hc, hw] at cc
          exact go c (Or.inr ⟨_, gs, by rw [if_neg cc]; exact hc, rfl⟩)
theorem y_depthOf {S : St} {a : Nat → Int32} {z q : Nat} (hz : 10000 ≤ z) (e0 : fA S 0 = a) (hW : WF a) (hq : q < 256) (v : Int32) : ∃ (w : Int32) (S' : St), mX10_depthOf z v (nI q) S = some (w, S') ∧ w.toInt = dep a v.toInt q ∧ Lo S S' := by
  have hN := (ns_nI hW).2
  unfold mX10_depthOf
  exact y_dep1 hz hW hq v (ns a) 0 z (-30000) 0 S (by omega) (by omega) e0 (Or.inl ⟨rfl, rfl, rfl⟩)
