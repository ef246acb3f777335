/-! PURE: the crossing of two lines -/
def frI (a : Nat → Int32) (i j : Nat) : Int := (sa a i 1 - sa a j 1) * (sa a i 1 - sa a j 1) + (sa a i 2 - sa a j 2) * (sa a i 2 - sa a j 2)
abbrev Pr : Type := Option (Nat × Nat × Int)
def stp (a : Nat → Int32) (i j : Nat) (o : Pr) : Pr := match o with
  | none => some (i, j, frI a i j)
  | some q => if frI a i j < q.2.2 then some (i, j, frI a i j) else some q
def inr (a : Nat → Int32) (l i : Nat) (o : Pr) : Nat → Pr
  | 0 => o
  | j + 1 => if ofB a l j then stp a i j (inr a l i o j) else inr a l i o j
def out (a : Nat → Int32) (k l : Nat) : Nat → Pr
  | 0 => none
  | i + 1 => if ofB a k i then inr a l i (out a k l i) (ns a) else out a k l i
def cr (a : Nat → Int32) (k l : Nat) : Pr := out a k l (ns a)
theorem sq_b {x : Int} (h1 : -255 ≤ x) (h2 : x ≤ 255) : 0 ≤ x * x ∧ x * x ≤ 65025 := by
  rcases Int.le_total 0 x with h | h
  · have q1 : 0 ≤ x * x := Int.mul_nonneg h h
    have q2 : x * x ≤ 255 * x := Int.mul_le_mul_of_nonneg_right h2 h
    omega
  · have q1 : 0 ≤ x * x := Int.mul_nonneg_of_nonpos_of_nonpos h h
    have q2 : (-255 - x) * x ≥ 0 := Int.mul_nonneg_of_nonpos_of_nonpos (by omega) h
    rw [Int.sub_mul] at q2
    omega
theorem frI_b {a : Nat → Int32} (hW : WF a) {i j : Nat} (hi : i < ns a) (hj : j < ns a) : 0 ≤ frI a i j ∧ frI a i j ≤ 130050 := by
  have hN := (ns_nI hW).2
  obtain ⟨-, g2, g3, -⟩ := hW.2.2.2.2.2 i (by omega) hi
  obtain ⟨-, k2, k3, -⟩ := hW.2.2.2.2.2 j (by omega) hj
  have q1 := sq_b (x := sa a i 1 - sa a j 1) (by omega) (by omega)
  have q2 := sq_b (x := sa a i 2 - sa a j 2) (by omega) (by omega)
  unfold frI; omega
theorem far_ok {a : Nat → Int32} (hW : WF a) {i j : Nat} (hi : i < ns a) (hj : j < ns a) : (((a (2564 + 10 * i + 1) - a (2564 + 10 * j + 1)) * (a (2564 + 10 * i + 1) - a (2564 + 10 * j + 1))) + ((a (2564 + 10 * i + 2) - a (2564 + 10 * j + 2)) * (a (2564 + 10 * i + 2) - a (2564 + 10 * j + 2)))).toInt = frI a i j := by
  have hN := (ns_nI hW).2
  obtain ⟨-, g2, g3, -⟩ := hW.2.2.2.2.2 i (by omega) hi
  obtain ⟨-, k2, k3, -⟩ := hW.2.2.2.2.2 j (by omega) hj
  have s1 : (a (2564 + 10 * i + 1)).toInt = sa a i 1 := rfl
  have s2 : (a (2564 + 10 * i + 2)).toInt = sa a i 2 := rfl
  have t1 : (a (2564 + 10 * j + 1)).toInt = sa a j 1 := rfl
  have t2 : (a (2564 + 10 * j + 2)).toInt = sa a j 2 := rfl
  have q1 := sq_b (x := sa a i 1 - sa a j 1) (by omega) (by omega)
  have q2 := sq_b (x := sa a i 2 - sa a j 2) (by omega) (by omega)
  have d1 : (a (2564 + 10 * i + 1) - a (2564 + 10 * j + 1)).toInt = sa a i 1 - sa a j 1 := by rw [ti_sub (by omega) (by omega), s1, t1]
  have d2 : (a (2564 + 10 * i + 2) - a (2564 + 10 * j + 2)).toInt = sa a i 2 - sa a j 2 := by rw [ti_sub (by omega) (by omega), s2, t2]
  have m1 : ((a (2564 + 10 * i + 1) - a (2564 + 10 * j + 1)) * (a (2564 + 10 * i + 1) - a (2564 + 10 * j + 1))).toInt = (sa a i 1 - sa a j 1) * (sa a i 1 - sa a j 1) := by rw [ti_mul (by rw [d1]; omega) (by rw [d1]; omega), d1]
  have m2 : ((a (2564 + 10 * i + 2) - a (2564 + 10 * j + 2)) * (a (2564 + 10 * i + 2) - a (2564 + 10 * j + 2))).toInt = (sa a i 2 - sa a j 2) * (sa a i 2 - sa a j 2) := by rw [ti_mul (by rw [d2]; omega) (by rw [d2]; omega), d2]
  rw [ti_add (by omega) (by omega), m1, m2]; rfl
theorem x_apart {S : St} {a : Nat → Int32} (hW : WF a) (hR : Rel 0 S a) {i j : Nat} (hi : i < ns a) (hj : j < ns a) : ∃ d : Int32, mX6_apart S (nI i) (nI j) = some d ∧ d.toInt = frI a i j := by
  have hN := (ns_nI hW).2
  have x1 : ∀ {n}, n < ns a → fA S 7 n = a (2564 + 10 * n + 1) := fun {n} hn => hR.2.2.2.2.2 n 1 (by omega) hn (by omega)
  have x2 : ∀ {n}, n < ns a → fA S 8 n = a (2564 + 10 * n + 2) := fun {n} hn => hR.2.2.2.2.2 n 2 (by omega) hn (by omega)
  unfold mX6_apart
  rw [rd_nI (by omega) (by omega), ob, rd_nI (by omega) (by omega), ob, rd_nI (by omega) (by omega), ob, rd_nI (by omega) (by omega), ob, x1 hi, x1 hj, x2 hi, x2 hj]
  exact ⟨_, rfl, far_ok hW hi hj⟩
theorem y_far {S : St} {a : Nat → Int32} (hW : WF a) (e0 : fA S 0 = a) {i j : Nat} (hi : i < ns a) (hj : j < ns a) : ∃ d : Int32, mX10_far S (nI i) (nI j) = some d ∧ d.toInt = frI a i j := by
  have hN := (ns_nI hW).2
  unfold mX10_far
  rw [y_o1 e0 (by omega), ob, y_o1 e0 (by omega), ob, y_o2 e0 (by omega), ob, y_o2 e0 (by omega), ob]
  exact ⟨_, rfl, far_ok hW hi hj⟩
/-- a pair is a pair of soundings, neither waits -/
def okP (a : Nat → Int32) (o : Pr) : Prop := ∀ q, o = some q → q.1 < ns a ∧ q.2.1 < ns a ∧ wtB a q.1 = false ∧ wtB a q.2.1 = false ∧ 0 ≤ q.2.2 ∧ q.2.2 ≤ 130050
theorem stp_ok {a : Nat → Int32} (hW : WF a) {i j : Nat} {o : Pr} (h : okP a o) (hi : i < ns a) (hj : j < ns a) (wi : wtB a i = false) (wj : wtB a j = false) : okP a (stp a i j o) := by
  have fb := frI_b hW hi hj
  intro q hq
  unfold stp at hq
  cases o with
  | none => cases hq; exact ⟨hi, hj, wi, wj, fb.1, fb.2⟩
  | some p =>
    dsimp only at hq
    split at hq
    · cases hq; exact ⟨hi, hj, wi, wj, fb.1, fb.2⟩
    · cases hq; exact h q rfl
theorem inr_ok {a : Nat → Int32} (hW : WF a) {l i : Nat} {o : Pr} (h : okP a o) (hi : i < ns a) (wi : wtB a i = false) : ∀ j, j ≤ ns a → okP a (inr a l i o j) := by
  intro j
  induction j with
  | zero => intro _; exact h
  | succ j ih =>
    intro hj
    unfold inr
    split
    · rename_i c
      rw [ofB_iff] at c
      exact stp_ok hW (ih (by omega)) hi (by omega) wi c.2.2
    · exact ih (by omega)
theorem out_ok {a : Nat → Int32} (hW : WF a) {k l : Nat} : ∀ i, i ≤ ns a → okP a (out a k l i) := by
  intro i
  induction i with
  | zero => intro _ q h; cases h
  | succ i ih =>
    intro hi
    unfold out
    split
    · rename_i c
      rw [ofB_iff] at c
      exact inr_ok hW (ih (by omega)) (by omega) c.2.2 _ (Nat.le_refl _)
    · exact ih (by omega)
theorem cr_ok {a : Nat → Int32} (hW : WF a) (k l : Nat) : okP a (cr a k l) := out_ok hW _ (Nat.le_refl _)
/-- the class carries the pair only if it is near enough: U is the square of the reach -/
def EX (S : St) (U : Int) (o : Pr) : Prop := (∃ q, o = some q ∧ q.2.2 ≤ U ∧ fI S 10 = nI q.1 ∧ fI S 11 = nI q.2.1 ∧ (fI S 12).toInt = q.2.2) ∨ ((∀ q, o = some q → U < q.2.2) ∧ fI S 10 = -1 ∧ fI S 11 = -1 ∧ (fI S 12).toInt = U + 1)
def FrC (S S' : St) : Prop := (∀ j, j ≠ 10 → j ≠ 11 → j ≠ 12 → fI S' j = fI S j) ∧ ∀ j, fA S' j = fA S j
theorem FrC.rf (S : St) : FrC S S := ⟨fun _ _ _ _ => rfl, fun _ => rfl⟩
theorem FrC.tr {S S' S'' : St} (h : FrC S S') (g : FrC S' S'') : FrC S S'' := ⟨fun j a b c => (g.1 j a b c).trans (h.1 j a b c), fun j => (g.2 j).trans (h.2 j)⟩
theorem Ghd.c {a : Nat → Int32} {S S' : St} (h : Ghd a S) (f : FrC S S') : Ghd a S' :=
  ⟨⟨h.1.1.of (by omega) (fun k hk => f.1 k (by omega) (by omega) (by omega)) (fun k _ _ => f.2 k), fun i hi => by rw [f.2]; exact h.1.2 i hi⟩, fun l n h1 h2 h3 => by rw [f.2]; exact h.2.1 l n h1 h2 h3, fun k hk => by rw [f.2]; exact h.2.2 k hk⟩
theorem EX_step {a : Nat → Int32} {S : St} {U : Int} {o : Pr} {i j : Nat} {d : Int32} (h : EX S U o) (hd : d.toInt = frI a i j) : (fI S 12 ≤ d → EX S U (stp a i j o)) ∧ (¬ fI S 12 ≤ d → EX (sI (sI (sI S 12 d) 10 (nI i)) 11 (nI j)) U (stp a i j o)) := by
  have new : frI a i j ≤ U → EX (sI (sI (sI S 12 d) 10 (nI i)) 11 (nI j)) U (some (i, j, frI a i j)) := fun hu => Or.inl ⟨_, rfl, hu, rfl, rfl, hd⟩
  rcases h with ⟨q, rfl, q1, q2, q3, q4⟩ | ⟨q1, q2, q3, q4⟩
  · refine ⟨fun c => ?_, fun c => ?_⟩
    · rw [i_le, hd, q4] at c
      unfold stp
      dsimp only
      rw [if_neg (by omega)]
      exact Or.inl ⟨q, rfl, q1, q2, q3, q4⟩
    · rw [i_le, hd, q4] at c
      unfold stp
      dsimp only
      rw [if_pos (by omega)]
      exact new (by omega)
  · refine ⟨fun c => ?_, fun c => ?_⟩
    · rw [i_le, hd, q4] at c
      refine Or.inr ⟨fun q hq => ?_, q2, q3, q4⟩
      unfold stp at hq
      cases o with
      | none => cases hq; show U < frI a i j; omega
      | some p =>
        dsimp only at hq
        split at hq
        · cases hq; show U < frI a i j; omega
        · cases hq; exact q1 q rfl
    · rw [i_le, hd, q4] at c
      have e : stp a i j o = some (i, j, frI a i j) := by
        unfold stp
        cases o with
        | none => rfl
        | some p =>
          dsimp only
          have := q1 p rfl
          rw [if_pos (by omega)]
      rw [e]; exact new (by omega)
theorem x_find1 {a : Nat → Int32} {z k l i : Nat} {U : Int} {o : Pr} (hW : WF a) (hk : k < 20) (hl : l < 20) (hi : i < ns a) (oi : ofB a k i = true) {rc : Int32 → St → Option (Int32 × St)} : ∀ (r j m : Nat) (S : St), j + r = ns a → r < m → Ghd a S → EX S U (inr a l i o j) →
    ∃ S' : St, mX3_find_48 z rc (nI k) (nI l) (nI (ps a k i)) m (nI (ps a l j)) S = rc (nI (ps a k i) + 1) S' ∧ EX S' U (inr a l i o (ns a)) ∧ FrC S S' := by
  obtain ⟨e1, hN⟩ := ns_nI hW
  intro r
  induction r with
  | zero =>
    intro j m S hj hm hG hE
    obtain ⟨m, rfl⟩ : ∃ n', m = n' + 1 := ⟨m - 1, by omega⟩
    have : j = ns a := by omega
    subst this
    have tl := tot_le a (l + 1) (ns a)
    have pe : ps a l (ns a) = tot a (l + 1) (ns a) := rfl
    rw [mX3_find_48]; unfold mX3_find_48b
    rw [nI_1, rd_nI (by omega) (by omega), ob, hG.2.2 (l + 1) (by omega), pe, if_pos (by rw [leI (by omega) (by omega)]; omega)]
    exact ⟨S, rfl, hE, FrC.rf S⟩
  | succ r ih =>
    intro j m S hj hm hG hE
    cases oj : ofB a l j with
    | false =>
      have e : ps a l (j + 1) = ps a l j := by unfold ps; rw [cl_n oj]
      have := ih (j + 1) m S (by omega) (by omega) hG (by unfold inr; rw [oj]; exact hE)
      rw [e] at this; exact this
    | true =>
      obtain ⟨m, rfl⟩ : ∃ n', m = n' + 1 := ⟨m - 1, by omega⟩
      have tl := tot_le a (l + 1) (ns a)
      have tk := tot_le a (k + 1) (ns a)
      have pj := ps_lt (by omega) oj
      have pi := ps_lt hi oi
      have e : ps a l (j + 1) = ps a l j + 1 := by unfold ps; rw [cl_s oj]; omega
      have ie : inr a l i o (j + 1) = stp a i j (inr a l i o j) := by
        conv => lhs; unfold inr
        rw [if_pos oj]
      obtain ⟨d, ed, hd⟩ := x_apart hW hG.1.1 hi (j := j) (by omega)
      rw [mX3_find_48]; unfold mX3_find_48b
      rw [nI_1, rd_nI (by omega) (by omega), ob, hG.2.2 (l + 1) (by omega), if_neg (by rw [leI (by omega) (by omega)]; omega), rd_nI (by omega) (by omega), ob, rd_nI (by omega) (by omega), ob, hG.2.1 k i hk hi oi, hG.2.1 l j hl (by omega) oj, ed, ob, nI_1]
      have st := EX_step hE hd
      by_cases c : fI S 12 ≤ d
      · rw [if_pos c]
        obtain ⟨S', x1, x2, x3⟩ := ih (j + 1) m S (by omega) (by omega) hG (by rw [ie]; exact st.1 c)
        rw [e] at x1
        exact ⟨S', x1, x2, x3⟩
      · rw [if_neg c, rd_nI (by omega) (by omega), ob, rd_nI (by omega) (by omega), ob]
        have h1 : fA (sI S 12 d) 37 (ps a k i) = nI i := by rw [fA_sI]; exact hG.2.1 k i hk hi oi
        have h2 : fA (sI (sI S 12 d) 10 (nI i)) 37 (ps a l j) = nI j := by rw [fA_sI, fA_sI]; exact hG.2.1 l j hl (by omega) oj
        rw [h1, h2]
        have fr : FrC S (sI (sI (sI S 12 d) 10 (nI i)) 11 (nI j)) := ⟨fun q a b c => by rw [fI_sI, if_neg b, fI_sI, if_neg a, fI_sI, if_neg c], fun _ => rfl⟩
        obtain ⟨S', x1, x2, x3⟩ := ih (j + 1) m _ (by omega) (by omega) (hG.c fr) (by rw [ie]; exact st.2 c)
        rw [e] at x1
        exact ⟨S', x1, x2, fr.tr x3⟩
theorem x_find2 {a : Nat → Int32} {z k l : Nat} {U : Int} (hz : 10000 ≤ z) (hW : WF a) (hk : k < 20) (hl : l < 20) : ∀ (r i m : Nat) (S : St), i + r = ns a → r < m → Ghd a S → EX S U (out a k l i) →
    ∃ S' : St, mX3_find_27 z (nI k) (nI l) m (nI (ps a k i)) S = some (if fI S' 10 = -1 then 0 else 1, S') ∧ EX S' U (cr a k l) ∧ FrC S S' := by
  obtain ⟨e1, hN⟩ := ns_nI hW
  intro r
  induction r with
  | zero =>
    intro i m S hi hm hG hE
    obtain ⟨m, rfl⟩ : ∃ n', m = n' + 1 := ⟨m - 1, by omega⟩
    have : i = ns a := by omega
    subst this
    have tk := tot_le a (k + 1) (ns a)
    have pe : ps a k (ns a) = tot a (k + 1) (ns a) := rfl
    rw [mX3_find_27]; unfold mX3_find_27b mX3_find_136
    rw [nI_1, rd_nI (by omega) (by omega), ob, hG.2.2 (k + 1) (by omega), pe, if_pos (by rw [leI (by omega) (by omega)]; omega)]
    refine ⟨S, ?_, hE, FrC.rf S⟩
    by_cases c : fI S 10 = -1
    · rw [if_pos c, if_pos c]
    · rw [if_neg c, if_neg c]
  | succ r ih =>
    intro i m S hi hm hG hE
    cases oi : ofB a k i with
    | false =>
      have e : ps a k (i + 1) = ps a k i := by unfold ps; rw [cl_n oi]
      have := ih (i + 1) m S (by omega) (by omega) hG (by unfold out; rw [oi]; exact hE)
      rw [e] at this; exact this
    | true =>
      obtain ⟨m, rfl⟩ : ∃ n', m = n' + 1 := ⟨m - 1, by omega⟩
      have tk := tot_le a (k + 1) (ns a)
      have tl := tot_le a (l + 1) (ns a)
      have pi := ps_lt (by omega) oi
      have e : ps a k (i + 1) = ps a k i + 1 := by unfold ps; rw [cl_s oi]; omega
      have oe : out a k l (i + 1) = inr a l i (out a k l i) (ns a) := by
        conv => lhs; unfold out
        rw [if_pos oi]
      have p0 : ps a l 0 = tot a l (ns a) := by unfold ps; show _ + 0 = _; omega
      rw [mX3_find_27]; unfold mX3_find_27b
      rw [nI_1, rd_nI (by omega) (by omega), ob, hG.2.2 (k + 1) (by omega), if_neg (by rw [leI (by omega) (by omega)]; omega), rd_nI (by omega) (by omega), ob, hG.2.2 l (by omega), ← p0]
      obtain ⟨S1, x1, x2, x3⟩ := x_find1 (z := z) (U := U) (o := out a k l i) hW hk hl (by omega) oi (rc := mX3_find_27 z (nI k) (nI l) m) (ns a) 0 z S (by omega) (by omega) hG hE
      rw [x1, nI_1]
      obtain ⟨S', y1, y2, y3⟩ := ih (i + 1) m S1 (by omega) (by omega) (hG.c x3) (by rw [oe]; exact x2)
      rw [e] at y1
      exact ⟨S', y1, y2, x3.tr y3⟩
theorem x_cfind {a : Nat → Int32} {z k l : Nat} {u : Int32} (hz : 10000 ≤ z) (hW : WF a) (hk : k < 20) (hl : l < 20) (hu : 0 ≤ u.toInt ∧ u.toInt ≤ 400) {S : St} (hG : Ghd a S) :
    ∃ (f : Int32) (S' : St), mX3_find z (nI k) (nI l) u S = some (f, S') ∧ FrC S S' ∧ ((f = 0 ∧ ∀ q, cr a k l = some q → u.toInt * u.toInt < q.2.2) ∨ (f = 1 ∧ ∃ q, cr a k l = some q ∧ q.2.2 ≤ u.toInt * u.toInt ∧ fI S' 10 = nI q.1 ∧ fI S' 11 = nI q.2.1 ∧ (fI S' 12).toInt = q.2.2)) := by
  obtain ⟨e1, hN⟩ := ns_nI hW
  have ub : 0 ≤ u.toInt * u.toInt ∧ u.toInt * u.toInt ≤ 160000 := by
    have q1 : 0 ≤ u.toInt * u.toInt := Int.mul_nonneg hu.1 hu.1
    have q2 : u.toInt * u.toInt ≤ 400 * u.toInt := Int.mul_le_mul_of_nonneg_right hu.2 hu.1
    omega
  have o1 : (1 : Int32).toInt = 1 := rfl
  have um : (u * u).toInt = u.toInt * u.toInt := ti_mul (by omega) (by omega)
  have u1 : (u * u + 1).toInt = u.toInt * u.toInt + 1 := by rw [ti_add (by omega) (by omega), um, o1]
  have fr : FrC S (sI (sI (sI S 10 (-1)) 11 (-1)) 12 (u * u + 1)) := ⟨fun q a b c => by rw [fI_sI, if_neg c, fI_sI, if_neg b, fI_sI, if_neg a], fun _ => rfl⟩
  have p0 : ps a k 0 = tot a k (ns a) := by unfold ps; show _ + 0 = _; omega
  unfold mX3_find
  rw [rd_nI (by omega) (by omega), ob, (hG.c fr).2.2 k (by omega), ← p0]
  obtain ⟨S', x1, x2, x3⟩ := x_find2 (z := z) (U := u.toInt * u.toInt) hz hW hk hl (ns a) 0 z _ (by omega) (by omega) (hG.c fr) (Or.inr ⟨fun q h => (by cases h), rfl, rfl, u1⟩)
  refine ⟨_, S', x1, fr.tr x3, ?_⟩
  rcases x2 with ⟨q, q1, q2, q3, q4, q5⟩ | ⟨q1, q2, q3, q4⟩
  · have := cr_ok hW k l q q1
    rw [if_neg (by rw [q3]; exact nI_m1 (by omega))]
    exact Or.inr ⟨rfl, q, q1, q2, q3, q4, q5⟩
  · rw [if_pos q2]
    exact Or.inl ⟨rfl, q1⟩
-- the reference
theorem y_isOf {S : St} {a : Nat → Int32} {z n l : Nat} (hz : 10000 ≤ z) (e0 : fA S 0 = a) (hW : WF a) (hn : n < ns a) (hl : l < 20) : ∃ S' : St, mX10_isOf z (nI n) (nI l) S = some (if ofB a l n then 1 else 0, S') ∧ Lo S S' := by
  have hN := (ns_nI hW).2
  have s0 : (a (2564 + 10 * n + 0)).toInt = sa a n 0 := rfl
  have s5 : (a (2564 + 10 * n + 5)).toInt = sa a n 5 := rfl
  have l5 : a (2564 + 10 * n + 5) = nI l ↔ sa a n 5 = (l : Int) := by rw [i_eq, s5, nI_ti (by omega)]
  unfold mX10_isOf
  rw [y_o5 e0 (by omega), ob]
  by_cases c5 : a (2564 + 10 * n + 5) = nI l
  · rw [if_pos c5, y_o0 e0 (by omega), ob]
    by_cases c0 : (2 : Int32) ≤ a (2564 + 10 * n + 0)
    · rw [if_pos c0]
      rw [i_le, s0] at c0
      have w2 : (2 : Int32).toInt = 2 := rfl
      rw [if_neg (fun h => by rw [ofB_iff] at h; omega)]
      exact ⟨S, rfl, Lo.rf S⟩
    · rw [if_neg c0]
      rw [i_le, s0] at c0
      have w2 : (2 : Int32).toInt = 2 := rfl
      obtain ⟨S', e, l'⟩ := y_wt hz e0 hW hn
      rw [e, ob]
      refine ⟨S', ?_, l'⟩
      cases hw : wtB a n with
      | false => rw [if_pos (c := ofB a l n = true) (by rw [ofB_iff]; exact ⟨l5.mp c5, by omega, hw⟩)]; rfl
      | true => rw [if_neg (c := ofB a l n = true) (fun h => by rw [ofB_iff, hw] at h; cases h.2.2)]; rfl
  · rw [if_neg c5, if_neg (fun h => by rw [ofB_iff] at h; exact c5 (l5.mpr h.1))]
    exact ⟨S, rfl, Lo.rf S⟩
def EY (S : St) (o : Pr) : Prop := (o = none ∧ fI S 3 = -1) ∨ ∃ q, o = some q ∧ fI S 3 = nI q.1 ∧ fI S 4 = nI q.2.1 ∧ (fI S 5).toInt = q.2.2
def FrD (S S' : St) : Prop := (∀ j, j ≠ 3 → j ≠ 4 → j ≠ 5 → fI S' j = fI S j) ∧ ∀ j, fA S' j = fA S j
theorem FrD.rf (S : St) : FrD S S := ⟨fun _ _ _ _ => rfl, fun _ => rfl⟩
theorem FrD.tr {S S' S'' : St} (h : FrD S S') (g : FrD S' S'') : FrD S S'' := ⟨fun j a b c => (g.1 j a b c).trans (h.1 j a b c), fun j => (g.2 j).trans (h.2 j)⟩
theorem Lo.d {S S' : St} (h : Lo S S') : FrD S S' := ⟨fun j _ _ _ => h.i j, h.a⟩
theorem FrD.py {S S' : St} (h : FrD S S') : PY S S' := ⟨fun k _ => h.1 k (by omega) (by omega) (by omega), fun k _ => h.2 k⟩
theorem EY.lo {S S' : St} {o : Pr} (h : EY S o) (l : Lo S S') : EY S' o := by
  unfold EY
  rw [l.i, l.i, l.i]; exact h
theorem y_cr1 {a : Nat → Int32} {z k l i : Nat} {o : Pr} {u : Int32} (hz : 10000 ≤ z) (hW : WF a) (hl : l < 20) (hi : i < ns a) (wi : wtB a i = false) (ho : okP a o) {rc : Int32 → St → Option (Int32 × St)} : ∀ (r j m : Nat) (S : St), j + r = ns a → r < m → fA S 0 = a → EY S (inr a l i o j) →
    ∃ S' : St, mX10_crosses_35 z rc (nI k) (nI l) u (nI i) m (nI j) S = rc (nI (i + 1)) S' ∧ EY S' (inr a l i o (ns a)) ∧ FrD S S' := by
  obtain ⟨e1, hN⟩ := ns_nI hW
  intro r
  induction r with
  | zero =>
    intro j m S hj hm e0 hE
    obtain ⟨m, rfl⟩ : ∃ n', m = n' + 1 := ⟨m - 1, by omega⟩
    have : j = ns a := by omega
    subst this
    rw [mX10_crosses_35]; unfold mX10_crosses_35b
    rw [rd_1 (by omega) (by omega), ob, e0, e1, if_pos (by rw [leI (by omega) (by omega)]; omega), nI_1]
    exact ⟨S, rfl, hE, FrD.rf S⟩
  | succ r ih =>
    intro j m S hj hm e0 hE
    obtain ⟨m, rfl⟩ : ∃ n', m = n' + 1 := ⟨m - 1, by omega⟩
    obtain ⟨S1, es, l1⟩ := y_isOf hz e0 hW (n := j) (by omega) hl
    have e01 : fA S1 0 = a := (l1.a 0).trans e0
    have hE1 := hE.lo l1
    rw [mX10_crosses_35]; unfold mX10_crosses_35b
    rw [rd_1 (by omega) (by omega), ob, e0, e1, if_neg (by rw [leI (by omega) (by omega)]; omega), es, ob, nI_1]
    dsimp only
    rw [if01]
    cases oj : ofB a l j with
    | false =>
      rw [if_neg Bool.false_ne_true]
      obtain ⟨S', x1, x2, x3⟩ := ih (j + 1) m S1 (by omega) (by omega) e01 (by unfold inr; rw [oj]; exact hE1)
      exact ⟨S', x1, x2, l1.d.tr x3⟩
    | true =>
      rw [if_pos rfl]
      have ie : inr a l i o (j + 1) = stp a i j (inr a l i o j) := by
        conv => lhs; unfold inr
        rw [if_pos oj]
      have take : stp a i j (inr a l i o j) = some (i, j, frI a i j) → ∃ S' : St, mX10_crosses_81 z rc (mX10_crosses_35 z rc (nI k) (nI l) u (nI i) m) (nI k) (nI l) u (nI i) (nI j) S1 = rc (nI (i + 1)) S' ∧ EY S' (inr a l i o (ns a)) ∧ FrD S S' := fun hs => by
        unfold mX10_crosses_81
        obtain ⟨d, ed, hd⟩ := y_far (S := sI (sI S1 3 (nI i)) 4 (nI j)) hW e01 hi (j := j) (by omega)
        rw [ed, ob, nI_1]
        have fr : FrD S1 (sI (sI (sI S1 3 (nI i)) 4 (nI j)) 5 d) := ⟨fun q a b c => by rw [fI_sI, if_neg c, fI_sI, if_neg b, fI_sI, if_neg a], fun _ => rfl⟩
        obtain ⟨S', x1, x2, x3⟩ := ih (j + 1) m _ (by omega) (by omega) ((fr.2 0).trans e01) (by rw [ie, hs]; exact Or.inr ⟨_, rfl, rfl, rfl, hd⟩)
        exact ⟨S', x1, x2, (l1.d.tr fr).tr x3⟩
      rcases hE1 with ⟨h1, h2⟩ | ⟨q, h1, h2, h3, h4⟩
      · rw [h2, if_pos (by decide)]
        exact take (by rw [h1]; rfl)
      · have hq := inr_ok hW (l := l) ho hi wi j (by omega) q h1
        obtain ⟨d, ed, hd⟩ := y_far (S := S1) hW e01 hi (j := j) (by omega)
        rw [h2, if_neg (by rw [lt0, nI_ti (by omega)]; omega), ed, ob]
        by_cases c : d < fI S1 5
        · rw [if_pos c]; rw [i_lt, hd, h4] at c
          exact take (by rw [h1]; unfold stp; dsimp only; rw [if_pos c])
        · rw [if_neg c]; rw [i_lt, hd, h4] at c
          obtain ⟨S', x1, x2, x3⟩ := ih (j + 1) m S1 (by omega) (by omega) e01 (by rw [ie, h1]; unfold stp; dsimp only; rw [if_neg c]; exact Or.inr ⟨q, rfl, h2, h3, h4⟩)
          exact ⟨S', x1, x2, l1.d.tr x3⟩
theorem y_cr2 {a : Nat → Int32} {z k l : Nat} {u : Int32} (hz : 10000 ≤ z) (hW : WF a) (hk : k < 20) (hl : l < 20) : ∀ (r i m : Nat) (S : St), i + r = ns a → r < m → fA S 0 = a → EY S (out a k l i) →
    ∃ S' : St, mX10_crosses_8 z (nI k) (nI l) u m (nI i) S = mX10_crosses_117 z u S' ∧ EY S' (cr a k l) ∧ FrD S S' := by
  obtain ⟨e1, hN⟩ := ns_nI hW
  intro r
  induction r with
  | zero =>
    intro i m S hi hm e0 hE
    obtain ⟨m, rfl⟩ : ∃ n', m = n' + 1 := ⟨m - 1, by omega⟩
    have : i = ns a := by omega
    subst this
    rw [mX10_crosses_8]; unfold mX10_crosses_8b
    rw [rd_1 (by omega) (by omega), ob, e0, e1, if_pos (by rw [leI (by omega) (by omega)]; omega)]
    exact ⟨S, rfl, hE, FrD.rf S⟩
  | succ r ih =>
    intro i m S hi hm e0 hE
    obtain ⟨m, rfl⟩ : ∃ n', m = n' + 1 := ⟨m - 1, by omega⟩
    obtain ⟨S1, es, l1⟩ := y_isOf hz e0 hW (n := i) (by omega) hk
    have e01 : fA S1 0 = a := (l1.a 0).trans e0
    have hE1 := hE.lo l1
    rw [mX10_crosses_8]; unfold mX10_crosses_8b
    rw [rd_1 (by omega) (by omega), ob, e0, e1, if_neg (by rw [leI (by omega) (by omega)]; omega), es, ob, nI_1]
    dsimp only
    rw [if01]
    cases oi : ofB a k i with
    | false =>
      rw [if_neg Bool.false_ne_true]
      obtain ⟨S', x1, x2, x3⟩ := ih (i + 1) m S1 (by omega) (by omega) e01 (by unfold out; rw [oi]; exact hE1)
      exact ⟨S', x1, x2, l1.d.tr x3⟩
    | true =>
      rw [if_pos rfl]
      have oe : out a k l (i + 1) = inr a l i (out a k l i) (ns a) := by
        conv => lhs; unfold out
        rw [if_pos oi]
      have wi : wtB a i = false := by rw [ofB_iff] at oi; exact oi.2.2
      obtain ⟨S2, x1, x2, x3⟩ := y_cr1 (z := z) (k := k) (u := u) hz hW hl (by omega) wi (out_ok hW i (by omega)) (rc := mX10_crosses_8 z (nI k) (nI l) u m) (ns a) 0 z S1 (by omega) (by omega) e01 hE1
      rw [show (0 : Int32) = nI 0 from rfl, x1]
      obtain ⟨S', y1, y2, y3⟩ := ih (i + 1) m S2 (by omega) (by omega) ((x3.2 0).trans e01) (by rw [oe]; exact x2)
      exact ⟨S', y1, y2, (l1.d.tr x3).tr y3⟩
theorem y_cross {a : Nat → Int32} {z k l : Nat} {u : Int32} (hz : 10000 ≤ z) (hW : WF a) (hk : k < 20) (hl : l < 20) (hu : 0 ≤ u.toInt ∧ u.toInt ≤ 400) {S : St} (e0 : fA S 0 = a) :
    ∃ (f : Int32) (S' : St), mX10_crosses z (nI k) (nI l) u S = some (f, S') ∧ FrD S S' ∧ ((f = 0 ∧ ∀ q, cr a k l = some q → u.toInt * u.toInt < q.2.2) ∨ (f = 1 ∧ ∃ q, cr a k l = some q ∧ q.2.2 ≤ u.toInt * u.toInt ∧ fI S' 3 = nI q.1 ∧ fI S' 4 = nI q.2.1 ∧ (fI S' 5).toInt = q.2.2)) := by
  obtain ⟨e1, hN⟩ := ns_nI hW
  have ub : 0 ≤ u.toInt * u.toInt ∧ u.toInt * u.toInt ≤ 160000 := by
    have q1 : 0 ≤ u.toInt * u.toInt := Int.mul_nonneg hu.1 hu.1
    have q2 : u.toInt * u.toInt ≤ 400 * u.toInt := Int.mul_le_mul_of_nonneg_right hu.2 hu.1
    omega
  have um : (u * u).toInt = u.toInt * u.toInt := ti_mul (by omega) (by omega)
  have fr : FrD S (sI S 3 (-1)) := ⟨fun q a b c => by rw [fI_sI, if_neg a], fun _ => rfl⟩
  unfold mX10_crosses
  obtain ⟨S', x1, x2, x3⟩ := y_cr2 (z := z) (k := k) (l := l) (u := u) hz hW hk hl (ns a) 0 z (sI S 3 (-1)) (by omega) (by omega) e0 (Or.inl ⟨rfl, rfl⟩)
  rw [show (0 : Int32) = nI 0 from rfl, x1]
  unfold mX10_crosses_117
  rcases x2 with ⟨h1, h2⟩ | ⟨q, h1, h2, h3, h4⟩
  · rw [h2, if_pos (by decide)]
    exact ⟨_, S', rfl, fr.tr x3, Or.inl ⟨rfl, fun q hq => by rw [h1] at hq; cases hq⟩⟩
  · have hq := cr_ok hW k l q h1
    rw [h2, if_neg (by rw [lt0, nI_ti (by omega)]; omega)]
    by_cases c : u * u < fI S' 5
    · rw [if_pos c]; rw [i_lt, um, h4] at c
      exact ⟨_, S', rfl, fr.tr x3, Or.inl ⟨rfl, fun p hp => by rw [h1] at hp; cases hp; exact c⟩⟩
    · rw [if_neg c]; rw [i_lt, um, h4] at c
      exact ⟨_, S', rfl, fr.tr x3, Or.inr ⟨rfl, q, h1, by omega, h2, h3, h4⟩⟩
