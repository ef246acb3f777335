/-! PURE: single changes of the common table, on both sides -/
theorem sA_sA (S : St) (k : Nat) (f g : Nat → Int32) : sA (sA S k f) k g = sA S k g := by
  unfold sA
  refine Prod.ext rfl (Prod.ext rfl (funext fun j => ?_))
  by_cases h : j = k <;> simp [h]
theorem nl_up {a : Nat → Int32} {i : Nat} {x : Int32} (h : i ≠ 0) : nl (upd a i x) = nl a := by unfold nl; rw [up_n _ _ (by omega)]
theorem ns_up {a : Nat → Int32} {i : Nat} {x : Int32} (h : i ≠ 1) : ns (upd a i x) = ns a := by unfold ns; rw [up_n _ _ (by omega)]
theorem tn_up {a : Nat → Int32} {i d : Nat} {x : Int32} (h : 64 + 25 * d ≠ i) : tn (upd a i x) d = tn a d := by unfold tn; rw [up_n _ _ h]
theorem ixt1 {d d' k j : Nat} (hk : k < 12) (hj : j < 2) : 64 + 25 * d' ≠ 65 + 25 * d + 2 * k + j := by
  rcases Nat.lt_or_ge d d' with h | h <;> omega
/-- a number of a line is put on both sides -/
theorem rel_line {S : St} {a : Nat → Int32} (h : Rel 0 S a) {l j : Nat} (hl : l < 20) (hj : j < 3) (x : Int32) : Rel 0 (sA S j (upd (fA S j) l x)) (upd a (4 + 3 * l + j) x) := by
  obtain ⟨h1, h2, h3, h4, h5, h6⟩ := h
  refine ⟨by rw [up_n _ _ (by omega)]; exact h1, by rw [up_n _ _ (by omega)]; exact h2, fun l' j' hl' hl2 hj' => ?_, fun d hd => ?_, fun d k hd hk hk2 => ?_, fun n j' hn hn2 hj' => ?_⟩
  · rw [nl_up (by omega)] at hl2
    have e := h3 l' j' hl' hl2 hj'
    rw [fA_sA]
    by_cases c : 17 * 0 + j' = j
    · subst c
      rw [if_pos rfl, up_e, up_e]
      by_cases c2 : l' = l
      · rw [if_pos c2, if_pos (by omega)]
      · rw [if_neg c2, if_neg (by omega)]; exact e
    · rw [if_neg c, up_n _ _ (by omega)]; exact e
  · rw [fA_sA, if_neg (by omega), up_n _ _ (by omega)]; exact h4 d hd
  · rw [tn_up (by omega)] at hk2
    rw [fA_sA, if_neg (by omega), fA_sA, if_neg (by omega), up_n _ _ (by omega), up_n _ _ (by omega)]; exact h5 d k hd hk hk2
  · rw [ns_up (by omega)] at hn2
    rw [fA_sA, if_neg (by omega), up_n _ _ (by omega)]; exact h6 n j' hn hn2 hj'
/-- a number of a sounding -/
theorem rel_snd {S : St} {a : Nat → Int32} (h : Rel 0 S a) {n j : Nat} (hn : n < 200) (hj : j < 10) (x : Int32) : Rel 0 (sA S (6 + j) (upd (fA S (6 + j)) n x)) (upd a (2564 + 10 * n + j) x) := by
  obtain ⟨h1, h2, h3, h4, h5, h6⟩ := h
  refine ⟨by rw [up_n _ _ (by omega)]; exact h1, by rw [up_n _ _ (by omega)]; exact h2, fun l' j' hl' hl2 hj' => ?_, fun d hd => ?_, fun d k hd hk hk2 => ?_, fun n' j' hn' hn2 hj' => ?_⟩
  · rw [nl_up (by omega)] at hl2
    rw [fA_sA, if_neg (by omega), up_n _ _ (by omega)]; exact h3 l' j' hl' hl2 hj'
  · rw [fA_sA, if_neg (by omega), up_n _ _ (by omega)]; exact h4 d hd
  · rw [tn_up (by omega)] at hk2
    rw [fA_sA, if_neg (by omega), fA_sA, if_neg (by omega), up_n _ _ (by omega), up_n _ _ (by omega)]; exact h5 d k hd hk hk2
  · rw [ns_up (by omega)] at hn2
    have e := h6 n' j' hn' hn2 hj'
    rw [fA_sA]
    by_cases c : 17 * 0 + 6 + j' = 6 + j
    · have c3 : j' = j := by omega
      subst c3
      rw [if_pos (by omega), up_e, up_e]
      by_cases c2 : n' = n
      · rw [if_pos c2, if_pos (by omega)]
      · rw [if_neg c2, if_neg (by omega)]
        rw [show 6 + j' = 17 * 0 + 6 + j' by omega]; exact e
    · rw [if_neg c, up_n _ _ (by omega)]; exact e
/-- a minute (j = 0) or a height (j = 1) of a day -/
theorem rel_tide {S : St} {a : Nat → Int32} (h : Rel 0 S a) {d k j : Nat} (hd : d < 100) (hk : k < 12) (hj : j < 2) (x : Int32) : Rel 0 (sA S (4 + j) (upd (fA S (4 + j)) (12 * d + k) x)) (upd a (65 + 25 * d + 2 * k + j) x) := by
  obtain ⟨h1, h2, h3, h4, h5, h6⟩ := h
  refine ⟨by rw [up_n _ _ (by omega)]; exact h1, by rw [up_n _ _ (by omega)]; exact h2, fun l' j' hl' hl2 hj' => ?_, fun d' hd' => ?_, fun d' k' hd' hk' hk2 => ?_, fun n' j' hn' hn2 hj' => ?_⟩
  · rw [nl_up (by omega)] at hl2
    rw [fA_sA, if_neg (by omega), up_n _ _ (by omega)]; exact h3 l' j' hl' hl2 hj'
  · rw [fA_sA, if_neg (by omega), up_n _ _ (ixt1 hk hj)]; exact h4 d' hd'
  · rw [tn_up (ixt1 hk hj)] at hk2
    obtain ⟨e1, e2⟩ := h5 d' k' hd' hk' hk2
    rcases (show j = 0 ∨ j = 1 by omega) with rfl | rfl
    · refine ⟨?_, by rw [fA_sA, if_neg (by omega), up_n _ _ (by omega)]; exact e2⟩
      rw [fA_sA, if_pos (by omega), up_e, up_e]
      by_cases c2 : 12 * d' + k' = 12 * d + k
      · rw [if_pos c2, if_pos (by omega)]
      · rw [if_neg c2, if_neg (by omega)]; exact e1
    · refine ⟨by rw [fA_sA, if_neg (by omega), up_n _ _ (by omega)]; exact e1, ?_⟩
      rw [fA_sA, if_pos (by omega), up_e, up_e]
      by_cases c2 : 12 * d' + k' = 12 * d + k
      · rw [if_pos c2, if_pos (by omega)]
      · rw [if_neg c2, if_neg (by omega)]; exact e2
  · rw [ns_up (by omega)] at hn2
    rw [fA_sA, if_neg (by omega), up_n _ _ (by omega)]; exact h6 n' j' hn' hn2 hj'
/-- how many lines -/
theorem rel_nl {S : St} {a : Nat → Int32} (h : Rel 0 S a) (x : Int32) (hx : ∀ l j, l < 20 → l < x.toInt.toNat → j < 3 → fA S j l = a (4 + 3 * l + j)) : Rel 0 (sI S 1 x) (upd a 0 x) := by
  obtain ⟨h1, h2, h3, h4, h5, h6⟩ := h
  refine ⟨by rw [up_s]; rfl, by rw [up_n _ _ (by omega)]; exact h2, fun l' j' hl' hl2 hj' => ?_, fun d hd => ?_, fun d k hd hk hk2 => ?_, fun n j' hn hn2 hj' => ?_⟩
  · have e : nl (upd a 0 x) = x.toInt.toNat := by unfold nl; rw [up_s]
    rw [e] at hl2
    rw [fA_sI, up_n _ _ (by omega), show 17 * 0 + j' = j' by omega]; exact hx l' j' hl' hl2 hj'
  · rw [fA_sI, up_n _ _ (by omega)]; exact h4 d hd
  · rw [tn_up (by omega)] at hk2
    rw [fA_sI, fA_sI, up_n _ _ (by omega), up_n _ _ (by omega)]; exact h5 d k hd hk hk2
  · rw [ns_up (by omega)] at hn2
    rw [fA_sI, up_n _ _ (by omega)]; exact h6 n j' hn hn2 hj'
theorem rel_ns {S : St} {a : Nat → Int32} (h : Rel 0 S a) (x : Int32) (hx : ∀ n j, n < 200 → n < x.toInt.toNat → j < 10 → fA S (6 + j) n = a (2564 + 10 * n + j)) : Rel 0 (sI S 2 x) (upd a 1 x) := by
  obtain ⟨h1, h2, h3, h4, h5, h6⟩ := h
  refine ⟨by rw [up_n _ _ (by omega)]; exact h1, by rw [up_s]; rfl, fun l' j' hl' hl2 hj' => ?_, fun d hd => ?_, fun d k hd hk hk2 => ?_, fun n j' hn hn2 hj' => ?_⟩
  · rw [nl_up (by omega)] at hl2
    rw [fA_sI, up_n _ _ (by omega)]; exact h3 l' j' hl' hl2 hj'
  · rw [fA_sI, up_n _ _ (by omega)]; exact h4 d hd
  · rw [tn_up (by omega)] at hk2
    rw [fA_sI, fA_sI, up_n _ _ (by omega), up_n _ _ (by omega)]; exact h5 d k hd hk hk2
  · have e : ns (upd a 1 x) = x.toInt.toNat := by unfold ns; rw [up_s]
    rw [e] at hn2
    rw [fA_sI, up_n _ _ (by omega), show 17 * 0 + 6 + j' = 6 + j' by omega]; exact hx n j' hn hn2 hj'
theorem rel_tn {S : St} {a : Nat → Int32} (h : Rel 0 S a) {d : Nat} (hd : d < 100) (x : Int32) (hx : ∀ k, k < 12 → k < x.toInt.toNat → fA S 4 (12 * d + k) = a (65 + 25 * d + 2 * k) ∧ fA S 5 (12 * d + k) = a (66 + 25 * d + 2 * k)) : Rel 0 (sA S 3 (upd (fA S 3) d x)) (upd a (64 + 25 * d) x) := by
  obtain ⟨h1, h2, h3, h4, h5, h6⟩ := h
  refine ⟨by rw [up_n _ _ (by omega)]; exact h1, by rw [up_n _ _ (by omega)]; exact h2, fun l' j' hl' hl2 hj' => ?_, fun d' hd' => ?_, fun d' k hd' hk hk2 => ?_, fun n j' hn hn2 hj' => ?_⟩
  · rw [nl_up (by omega)] at hl2
    rw [fA_sA, if_neg (by omega), up_n _ _ (by omega)]; exact h3 l' j' hl' hl2 hj'
  · rw [fA_sA, if_pos (by omega), up_e, up_e]
    by_cases c : d' = d
    · rw [if_pos c, if_pos (by omega)]
    · rw [if_neg c, if_neg (by omega)]; exact h4 d' hd'
  · rw [fA_sA, if_neg (by omega), fA_sA, if_neg (by omega), up_n _ _ (by omega), up_n _ _ (by omega)]
    by_cases c : d' = d
    · subst c
      have e : tn (upd a (64 + 25 * d') x) d' = x.toInt.toNat := by unfold tn; rw [up_s]
      rw [e] at hk2
      exact hx k hk hk2
    · rw [tn_up (by omega)] at hk2
      exact h5 d' k hd' hk hk2
  · rw [ns_up (by omega)] at hn2
    rw [fA_sA, if_neg (by omega), up_n _ _ (by omega)]; exact h6 n j' hn hn2 hj'
-- the table stays as it may be
theorem la_up {a : Nat → Int32} {i l j : Nat} {x : Int32} (h : 4 + 3 * l + j ≠ i) : la (upd a i x) l j = la a l j := by unfold la; rw [up_n _ _ h]
theorem sa_up {a : Nat → Int32} {i n j : Nat} {x : Int32} (h : 2564 + 10 * n + j ≠ i) : sa (upd a i x) n j = sa a n j := by unfold sa; rw [up_n _ _ h]
theorem tm_up {a : Nat → Int32} {i d k : Nat} {x : Int32} (h : 65 + 25 * d + 2 * k ≠ i) : tm (upd a i x) d k = tm a d k := by unfold tm; rw [up_n _ _ h]
theorem th_up {a : Nat → Int32} {i d k : Nat} {x : Int32} (h : 66 + 25 * d + 2 * k ≠ i) : th (upd a i x) d k = th a d k := by unfold th; rw [up_n _ _ h]
theorem okS_up {a : Nat → Int32} {i n : Nat} {x : Int32} (h : i < 2564 + 10 * n ∨ 2564 + 10 * n + 9 < i) (h0 : nl a ≤ nl (upd a i x)) (g : okS a n) : okS (upd a i x) n := by
  have q : ∀ j, j < 10 → sa (upd a i x) n j = sa a n j := fun j hj => sa_up (by omega)
  unfold okS at g ⊢
  rw [q 0 (by omega), q 1 (by omega), q 2 (by omega), q 3 (by omega), q 4 (by omega), q 5 (by omega), q 6 (by omega), q 7 (by omega), q 8 (by omega), q 9 (by omega)]
  obtain ⟨g1, g2, g3, g4, g5, g6, g7, g8, g9, g10⟩ := g
  exact ⟨g1, g2, g3, g4, g5, fun c => by have := g6 c; omega, g7, g8, g9, g10⟩
theorem wf_line {a : Nat → Int32} (h : WF a) {l j : Nat} (hl : l < 20) (hj : j < 3) (x : Int32) (hx : l < nl a → (j = 0 → 0 ≤ x.toInt ∧ x.toInt ≤ 99) ∧ (j = 1 → 1400 ≤ x.toInt ∧ x.toInt ≤ 1600) ∧ (j = 2 → -50 ≤ x.toInt ∧ x.toInt ≤ 50)) : WF (upd a (4 + 3 * l + j) x) := by
  obtain ⟨h1, h2, h3, h4, h5, h6⟩ := h
  refine ⟨by rw [up_n _ _ (by omega)]; exact h1, by rw [up_n _ _ (by omega)]; exact h2, fun l' hl' hl2 => ?_, fun d hd => by rw [up_n _ _ (by omega)]; exact h4 d hd, fun d k hd hk hk2 => ?_, fun n hn hn2 => ?_⟩
  · rw [nl_up (by omega)] at hl2
    have e := h3 l' hl' hl2
    by_cases c : l' = l
    · subst c
      have q := hx hl2
      have s : la (upd a (4 + 3 * l' + j) x) l' j = x.toInt := by unfold la; rw [up_s]
      rcases (show j = 0 ∨ j = 1 ∨ j = 2 by omega) with rfl | rfl | rfl
      · rw [s, la_up (by omega), la_up (by omega)]; exact ⟨q.1 rfl, e.2.1, e.2.2⟩
      · rw [s, la_up (by omega), la_up (by omega)]; exact ⟨e.1, q.2.1 rfl, e.2.2⟩
      · rw [s, la_up (by omega), la_up (by omega)]; exact ⟨e.1, e.2.1, q.2.2 rfl⟩
    · rw [la_up (by omega), la_up (by omega), la_up (by omega)]; exact e
  · rw [tn_up (by omega)] at hk2
    rw [tm_up (by omega), th_up (by omega)]; exact h5 d k hd hk hk2
  · rw [ns_up (by omega)] at hn2
    exact okS_up (by omega) (by rw [nl_up (by omega)]; omega) (h6 n hn hn2)
theorem wf_nl {a : Nat → Int32} (h : WF a) {l : Nat} (hl : l < 20) (e : nl a = l) (hx : (0 ≤ la a l 0 ∧ la a l 0 ≤ 99) ∧ (1400 ≤ la a l 1 ∧ la a l 1 ≤ 1600) ∧ (-50 ≤ la a l 2 ∧ la a l 2 ≤ 50)) : WF (upd a 0 (nI (l + 1))) := by
  obtain ⟨h1, h2, h3, h4, h5, h6⟩ := h
  have t : (nI (l + 1)).toInt = (l : Int) + 1 := by rw [nI_ti (by omega)]; omega
  have e2 : nl (upd a 0 (nI (l + 1))) = l + 1 := by unfold nl; rw [up_s, t]; omega
  refine ⟨by rw [up_s, t]; omega, by rw [up_n _ _ (by omega)]; exact h2, fun l' hl' hl2 => ?_, fun d hd => by rw [up_n _ _ (by omega)]; exact h4 d hd, fun d k hd hk hk2 => ?_, fun n hn hn2 => ?_⟩
  · rw [la_up (by omega), la_up (by omega), la_up (by omega)]
    by_cases c : l' = l
    · rw [c]; exact hx
    · exact h3 l' hl' (by omega)
  · rw [tn_up (by omega)] at hk2
    rw [tm_up (by omega), th_up (by omega)]; exact h5 d k hd hk hk2
  · rw [ns_up (by omega)] at hn2
    exact okS_up (by omega) (by omega) (h6 n hn hn2)
/-- changes beyond the live soundings -/
theorem wf_dead {a : Nat → Int32} (h : WF a) {n j : Nat} (hn : n < 200) (hj : j < 10) (hd : ns a ≤ n) (x : Int32) : WF (upd a (2564 + 10 * n + j) x) := by
  obtain ⟨h1, h2, h3, h4, h5, h6⟩ := h
  refine ⟨by rw [up_n _ _ (by omega)]; exact h1, by rw [up_n _ _ (by omega)]; exact h2, fun l' hl' hl2 => ?_, fun d hd => by rw [up_n _ _ (by omega)]; exact h4 d hd, fun d k hd hk hk2 => ?_, fun n' hn' hn2 => ?_⟩
  · rw [nl_up (by omega)] at hl2
    rw [la_up (by omega), la_up (by omega), la_up (by omega)]; exact h3 l' hl' hl2
  · rw [tn_up (by omega)] at hk2
    rw [tm_up (by omega), th_up (by omega)]; exact h5 d k hd hk hk2
  · rw [ns_up (by omega)] at hn2
    exact okS_up (by omega) (by rw [nl_up (by omega)]; omega) (h6 n' hn' hn2)
theorem wf_ns {a : Nat → Int32} (h : WF a) {n : Nat} (hn : n < 200) (e : ns a = n) (hx : okS a n) : WF (upd a 1 (nI (n + 1))) := by
  obtain ⟨h1, h2, h3, h4, h5, h6⟩ := h
  have t : (nI (n + 1)).toInt = (n : Int) + 1 := by rw [nI_ti (by omega)]; omega
  have e2 : ns (upd a 1 (nI (n + 1))) = n + 1 := by unfold ns; rw [up_s, t]; omega
  have e3 : nl (upd a 1 (nI (n + 1))) = nl a := nl_up (by omega)
  refine ⟨by rw [up_n _ _ (by omega)]; exact h1, by rw [up_s, t]; omega, fun l' hl' hl2 => ?_, fun d hd => by rw [up_n _ _ (by omega)]; exact h4 d hd, fun d k hd hk hk2 => ?_, fun n' hn' hn2 => ?_⟩
  · rw [nl_up (by omega)] at hl2
    rw [la_up (by omega), la_up (by omega), la_up (by omega)]; exact h3 l' hl' hl2
  · rw [tn_up (by omega)] at hk2
    rw [tm_up (by omega), th_up (by omega)]; exact h5 d k hd hk hk2
  · refine okS_up (by omega) (by omega) ?_
    by_cases c : n' = n
    · rw [c]; exact hx
    · exact h6 n' hn' (by omega)
theorem wf_gone {a : Nat → Int32} (h : WF a) {n : Nat} (hn : n < 200) (x : Int32) (hx : 0 ≤ x.toInt ∧ x.toInt ≤ 100) : WF (upd a (2564 + 10 * n + 7) x) := by
  obtain ⟨h1, h2, h3, h4, h5, h6⟩ := h
  refine ⟨by rw [up_n _ _ (by omega)]; exact h1, by rw [up_n _ _ (by omega)]; exact h2, fun l' hl' hl2 => ?_, fun d hd => by rw [up_n _ _ (by omega)]; exact h4 d hd, fun d k hd hk hk2 => ?_, fun n' hn' hn2 => ?_⟩
  · rw [nl_up (by omega)] at hl2
    rw [la_up (by omega), la_up (by omega), la_up (by omega)]; exact h3 l' hl' hl2
  · rw [tn_up (by omega)] at hk2
    rw [tm_up (by omega), th_up (by omega)]; exact h5 d k hd hk hk2
  · rw [ns_up (by omega)] at hn2
    have g := h6 n' hn' hn2
    by_cases c : n' = n
    · subst c
      have s : sa (upd a (2564 + 10 * n' + 7) x) n' 7 = x.toInt := by unfold sa; rw [up_s]
      unfold okS at g ⊢
      rw [s, sa_up (j := 0) (by omega), sa_up (j := 1) (by omega), sa_up (j := 2) (by omega), sa_up (j := 3) (by omega), sa_up (j := 4) (by omega), sa_up (j := 5) (by omega), sa_up (j := 6) (by omega), sa_up (j := 8) (by omega), sa_up (j := 9) (by omega), nl_up (by omega)]
      exact ⟨g.1, g.2.1, g.2.2.1, g.2.2.2.1, g.2.2.2.2.1, g.2.2.2.2.2.1, g.2.2.2.2.2.2.1, hx, g.2.2.2.2.2.2.2.2.1, g.2.2.2.2.2.2.2.2.2⟩
    · exact okS_up (by omega) (by rw [nl_up (by omega)]; omega) g
theorem wf_tide {a : Nat → Int32} (h : WF a) {d k j : Nat} (hd : d < 100) (hk : k < 12) (hj : j < 2) (x : Int32) (hx : (j = 0 → 0 ≤ x.toInt ∧ x.toInt ≤ 1439) ∧ (j = 1 → -100 ≤ x.toInt ∧ x.toInt ≤ 200)) : WF (upd a (65 + 25 * d + 2 * k + j) x) := by
  obtain ⟨h1, h2, h3, h4, h5, h6⟩ := h
  refine ⟨by rw [up_n _ _ (by omega)]; exact h1, by rw [up_n _ _ (by omega)]; exact h2, fun l' hl' hl2 => ?_, fun d hd => by rw [up_n _ _ (ixt1 hk hj)]; exact h4 d hd, fun d' k' hd' hk' hk2 => ?_, fun n' hn' hn2 => ?_⟩
  · rw [nl_up (by omega)] at hl2
    rw [la_up (by omega), la_up (by omega), la_up (by omega)]; exact h3 l' hl' hl2
  · rw [tn_up (ixt1 hk hj)] at hk2
    have e := h5 d' k' hd' hk' hk2
    rcases (show j = 0 ∨ j = 1 by omega) with rfl | rfl
    · rw [th_up (by omega)]
      refine ⟨?_, e.2⟩
      by_cases c : 65 + 25 * d' + 2 * k' = 65 + 25 * d + 2 * k + 0
      · unfold tm; rw [c, up_s]; exact hx.1 rfl
      · rw [tm_up c]; exact e.1
    · rw [tm_up (by omega)]
      refine ⟨e.1, ?_⟩
      by_cases c : 66 + 25 * d' + 2 * k' = 65 + 25 * d + 2 * k + 1
      · unfold th; rw [c, up_s]; exact hx.2 rfl
      · rw [th_up c]; exact e.2
  · rw [ns_up (by omega)] at hn2
    exact okS_up (by omega) (by rw [nl_up (by omega)]; omega) (h6 n' hn' hn2)
theorem wf_tn {a : Nat → Int32} (h : WF a) {d k : Nat} (hd : d < 100) (hk : k < 12) (e : tn a d = k) (hx : (0 ≤ tm a d k ∧ tm a d k ≤ 1439) ∧ (-100 ≤ th a d k ∧ th a d k ≤ 200)) : WF (upd a (64 + 25 * d) (nI (k + 1))) := by
  obtain ⟨h1, h2, h3, h4, h5, h6⟩ := h
  have t : (nI (k + 1)).toInt = (k : Int) + 1 := by rw [nI_ti (by omega)]; omega
  refine ⟨by rw [up_n _ _ (by omega)]; exact h1, by rw [up_n _ _ (by omega)]; exact h2, fun l' hl' hl2 => ?_, fun d' hd' => ?_, fun d' k' hd' hk' hk2 => ?_, fun n' hn' hn2 => ?_⟩
  · rw [nl_up (by omega)] at hl2
    rw [la_up (by omega), la_up (by omega), la_up (by omega)]; exact h3 l' hl' hl2
  · by_cases c : 64 + 25 * d' = 64 + 25 * d
    · rw [c, up_s, t]; omega
    · rw [up_n _ _ c]; exact h4 d' hd'
  · rw [tm_up (by omega), th_up (by omega)]
    by_cases c : d' = d
    · subst c
      have e2 : tn (upd a (64 + 25 * d') (nI (k + 1))) d' = k + 1 := by unfold tn; rw [up_s, t]; omega
      rw [e2] at hk2
      by_cases c2 : k' = k
      · rw [c2]; exact hx
      · exact h5 d' k' hd' hk' (by omega)
    · rw [tn_up (by omega)] at hk2
      exact h5 d' k' hd' hk' hk2
  · rw [ns_up (by omega)] at hn2
    exact okS_up (by omega) (by rw [nl_up (by omega)]; omega) (h6 n' hn' hn2)
