/-! PURE: what both states have in common: a table a of 4564 numbers (as the reference lays it out) -/
def nl (a : Nat → Int32) : Nat := (a 0).toInt.toNat
def ns (a : Nat → Int32) : Nat := (a 1).toInt.toNat
def tn (a : Nat → Int32) (d : Nat) : Nat := (a (64 + 25 * d)).toInt.toNat
def tm (a : Nat → Int32) (d k : Nat) : Int := (a (65 + 25 * d + 2 * k)).toInt
def th (a : Nat → Int32) (d k : Nat) : Int := (a (66 + 25 * d + 2 * k)).toInt
def la (a : Nat → Int32) (l j : Nat) : Int := (a (4 + 3 * l + j)).toInt
def sa (a : Nat → Int32) (n j : Nat) : Int := (a (2564 + 10 * n + j)).toInt
/-- the class's survey (o = 0), its image (o = 1), holds the table a -/
def Rel (o : Nat) (S : St) (a : Nat → Int32) : Prop :=
  fI S (1 + 2 * o) = a 0 ∧ fI S (2 + 2 * o) = a 1 ∧
  (∀ l j, l < 20 → l < nl a → j < 3 → fA S (17 * o + j) l = a (4 + 3 * l + j)) ∧
  (∀ d, d < 100 → fA S (17 * o + 3) d = a (64 + 25 * d)) ∧
  (∀ d k, d < 100 → k < 12 → k < tn a d → fA S (17 * o + 4) (12 * d + k) = a (65 + 25 * d + 2 * k) ∧ fA S (17 * o + 5) (12 * d + k) = a (66 + 25 * d + 2 * k)) ∧
  (∀ n j, n < 200 → n < ns a → j < 10 → fA S (17 * o + 6 + j) n = a (2564 + 10 * n + j))
/-- a sounding as it may be -/
def okS (a : Nat → Int32) (n : Nat) : Prop :=
  (0 ≤ sa a n 0 ∧ sa a n 0 ≤ 5) ∧ (0 ≤ sa a n 1 ∧ sa a n 1 ≤ 255) ∧ (0 ≤ sa a n 2 ∧ sa a n 2 ≤ 255) ∧ (-200 ≤ sa a n 3 ∧ sa a n 3 ≤ 19999) ∧ (0 ≤ sa a n 4 ∧ sa a n 4 ≤ 99) ∧
  (sa a n 0 < 3 → (0 ≤ sa a n 3 ∧ 0 ≤ sa a n 5 ∧ sa a n 5 < nl a ∧ 0 ≤ sa a n 6 ∧ sa a n 6 ≤ 1439)) ∧ (3 ≤ sa a n 0 → sa a n 5 = -1) ∧ (0 ≤ sa a n 7 ∧ sa a n 7 ≤ 100) ∧ (1 ≤ sa a n 8 ∧ sa a n 1 + sa a n 8 ≤ 256) ∧ (1 ≤ sa a n 9 ∧ sa a n 2 + sa a n 9 ≤ 256)
def WF (a : Nat → Int32) : Prop :=
  (0 ≤ (a 0).toInt ∧ (a 0).toInt ≤ 20) ∧ (0 ≤ (a 1).toInt ∧ (a 1).toInt ≤ 200) ∧
  (∀ l, l < 20 → l < nl a → (0 ≤ la a l 0 ∧ la a l 0 ≤ 99) ∧ (1400 ≤ la a l 1 ∧ la a l 1 ≤ 1600) ∧ (-50 ≤ la a l 2 ∧ la a l 2 ≤ 50)) ∧
  (∀ d, d < 100 → 0 ≤ (a (64 + 25 * d)).toInt ∧ (a (64 + 25 * d)).toInt ≤ 12) ∧
  (∀ d k, d < 100 → k < 12 → k < tn a d → (0 ≤ tm a d k ∧ tm a d k ≤ 1439) ∧ (-100 ≤ th a d k ∧ th a d k ≤ 200)) ∧
  (∀ n, n < 200 → n < ns a → okS a n)
theorem Rel.congr {o : Nat} {S : St} {a b : Nat → Int32} (h : Rel o S a) (e : ∀ k, k < 4564 → b k = a k) : Rel o S b := by
  obtain ⟨h1, h2, h3, h4, h5, h6⟩ := h
  have e0 : nl b = nl a := by unfold nl; rw [e 0 (by omega)]
  have e1 : ns b = ns a := by unfold ns; rw [e 1 (by omega)]
  have e2 : ∀ d, d < 100 → tn b d = tn a d := fun d hd => by unfold tn; rw [e _ (by omega)]
  refine ⟨by rw [e 0 (by omega)]; exact h1, by rw [e 1 (by omega)]; exact h2, fun l j hl hl2 hj => ?_, fun d hd => ?_, fun d k hd hk hk2 => ?_, fun n j hn hn2 hj => ?_⟩
  · rw [e _ (by omega)]; exact h3 l j hl (by omega) hj
  · rw [e _ (by omega)]; exact h4 d hd
  · rw [e2 d hd] at hk2
    rw [e _ (by omega), e _ (by omega)]; exact h5 d k hd hk hk2
  · rw [e _ (by omega)]; exact h6 n j hn (by omega) hj
theorem WF.congr {a b : Nat → Int32} (h : WF a) (e : ∀ k, k < 4564 → b k = a k) : WF b := by
  obtain ⟨h1, h2, h3, h4, h5, h6⟩ := h
  have e0 : nl b = nl a := by unfold nl; rw [e 0 (by omega)]
  have e1 : ns b = ns a := by unfold ns; rw [e 1 (by omega)]
  have e2 : ∀ d, d < 100 → tn b d = tn a d := fun d hd => by unfold tn; rw [e _ (by omega)]
  refine ⟨by rw [e 0 (by omega)]; exact h1, by rw [e 1 (by omega)]; exact h2, fun l hl hl2 => ?_, fun d hd => ?_, fun d k hd hk hk2 => ?_, fun n hn hn2 => ?_⟩
  · have := h3 l hl (by omega)
    unfold la at this ⊢
    rw [e _ (by omega), e _ (by omega), e _ (by omega)]; exact this
  · rw [e _ (by omega)]; exact h4 d hd
  · rw [e2 d hd] at hk2
    have := h5 d k hd hk hk2
    unfold tm th at this ⊢
    rw [e _ (by omega), e _ (by omega)]; exact this
  · have := h6 n hn (by omega)
    have q : ∀ j, j < 10 → sa b n j = sa a n j := fun j hj => by unfold sa; rw [e _ (by omega)]
    unfold okS at this ⊢
    rw [q 0 (by omega), q 1 (by omega), q 2 (by omega), q 3 (by omega), q 4 (by omega), q 5 (by omega), q 6 (by omega), q 7 (by omega), q 8 (by omega), q 9 (by omega), e0]; exact this
/-- the undoing of an act, as the class does it -/
def undoX (k w o : Int32) (S : St) : Option St :=
  if k = 0 then mX4_removeLast S
  else if k = 1 then mX8_removeLast w S
  else if k = 2 then (wr (fA S 5) 1200 w o).bind fun g => some (sA S 5 g)
  else if k = 3 then (wr (fA S 1) 20 w o).bind fun g => some (sA S 1 g)
  else if k = 4 then (wr (fA S 2) 20 w o).bind fun g => some (sA S 2 g)
  else if k = 5 then mX6_removeLast S
  else (wr (fA S 13) 200 w o).bind fun g => some (sA S 13 g)
/-- nothing but the survey has changed -/
def FrU (S S' : St) : Prop := (∀ j, j ≠ 1 → j ≠ 2 → fI S' j = fI S j) ∧ ∀ j, 16 ≤ j → fA S' j = fA S j
/-- the act (k, w, o) undone leads from what holds the table P to what holds P' -/
def Und (k w o : Int32) (P P' : Nat → Int32) : Prop := ∀ S, Rel 0 S P → ∃ S', undoX k w o S = some S' ∧ Rel 0 S' P' ∧ FrU S S'
def slot (n i : Nat) : Nat := (n + 19 - i) % 20
def snap (Sy : St) (ny : Nat) : Nat → Nat → Int32
  | 0 => fA Sy 0
  | i + 1 => fun k => fA Sy 1 (4564 * slot ny i + k)
def Hist (Sx Sy : St) : Prop := ∃ c nx ny : Nat, c ≤ 20 ∧ nx < 20 ∧ ny < 20 ∧ fI Sx 6 = nI c ∧ fI Sx 5 = nI nx ∧ fI Sy 0 = nI c ∧ fI Sy 1 = nI ny ∧
  ∀ i, i < c → WF (snap Sy ny (i + 1)) ∧ Und (fA Sx 34 (slot nx i)) (fA Sx 35 (slot nx i)) (fA Sx 36 (slot nx i)) (snap Sy ny i) (snap Sy ny (i + 1))
def Img (Sx Sy : St) : Prop := (fI Sx 0 = 0 ∧ fI Sy 2 = 0) ∨ (fI Sx 0 = 1 ∧ fI Sy 2 = 1 ∧ Rel 1 Sx (fA Sy 2) ∧ WF (fA Sy 2))
def Inv (Sx Sy : St) : Prop := Rel 0 Sx (fA Sy 0) ∧ WF (fA Sy 0) ∧ Img Sx Sy ∧ Hist Sx Sy
/-- what lasts in the class's state, in the reference's -/
def PX (S S' : St) : Prop := (∀ k, k ≤ 6 → fI S' k = fI S k) ∧ ∀ k, k ≠ 16 → k ≠ 33 → k ≤ 36 → fA S' k = fA S k
def PY (S S' : St) : Prop := (∀ k, k ≤ 2 → fI S' k = fI S k) ∧ ∀ k, k ≤ 2 → fA S' k = fA S k
theorem PX.rf (S : St) : PX S S := ⟨fun _ _ => rfl, fun _ _ _ _ => rfl⟩
theorem PY.rf (S : St) : PY S S := ⟨fun _ _ => rfl, fun _ _ => rfl⟩
theorem PX.tr {S S' S'' : St} (h : PX S S') (g : PX S' S'') : PX S S'' := ⟨fun k hk => (g.1 k hk).trans (h.1 k hk), fun k a b c => (g.2 k a b c).trans (h.2 k a b c)⟩
theorem PY.tr {S S' S'' : St} (h : PY S S') (g : PY S' S'') : PY S S'' := ⟨fun k hk => (g.1 k hk).trans (h.1 k hk), fun k c => (g.2 k c).trans (h.2 k c)⟩
theorem Rel.of {o : Nat} {S S' : St} {a : Nat → Int32} (h : Rel o S a) (ho : o ≤ 1) (hI : ∀ k, k = 1 + 2 * o ∨ k = 2 + 2 * o → fI S' k = fI S k) (hA : ∀ k, 17 * o ≤ k → k < 17 * o + 16 → fA S' k = fA S k) : Rel o S' a := by
  obtain ⟨h1, h2, h3, h4, h5, h6⟩ := h
  refine ⟨by rw [hI _ (Or.inl rfl)]; exact h1, by rw [hI _ (Or.inr rfl)]; exact h2, fun l j hl hl2 hj => ?_, fun d hd => ?_, fun d k hd hk hk2 => ?_, fun n j hn hn2 hj => ?_⟩
  · rw [hA _ (by omega) (by omega)]; exact h3 l j hl hl2 hj
  · rw [hA _ (by omega) (by omega)]; exact h4 d hd
  · rw [hA _ (by omega) (by omega), hA _ (by omega) (by omega)]; exact h5 d k hd hk hk2
  · rw [hA _ (by omega) (by omega)]; exact h6 n j hn hn2 hj
theorem snap_eq {Sy Sy' : St} {ny : Nat} (h0 : fA Sy' 0 = fA Sy 0) (h1 : fA Sy' 1 = fA Sy 1) (i : Nat) : snap Sy' ny i = snap Sy ny i := by
  cases i with
  | zero => exact h0
  | succ i => show (fun k => fA Sy' 1 (4564 * slot ny i + k)) = _; rw [h1]; rfl
theorem Rel.px {S S' : St} {a : Nat → Int32} (h : Rel 0 S a) (g : PX S S') : Rel 0 S' a := h.of (by omega) (fun k hk => g.1 k (by omega)) (fun k h1 h2 => g.2 k (by omega) (by omega) (by omega))
/-- what only looks leaves all that was common -/
theorem Inv.keep {Sx Sx' Sy Sy' : St} (h : Inv Sx Sy) (hx : PX Sx Sx') (hy : PY Sy Sy') : Inv Sx' Sy' := by
  obtain ⟨h1, h2, h3, c, nx, ny, g1, g2, g3, g4, g5, g6, g7, g8⟩ := h
  refine ⟨by rw [hy.2 0 (by omega)]; exact h1.px hx, by rw [hy.2 0 (by omega)]; exact h2, ?_, c, nx, ny, g1, g2, g3, by rw [hx.1 _ (by omega)]; exact g4, by rw [hx.1 _ (by omega)]; exact g5, by rw [hy.1 _ (by omega)]; exact g6, by rw [hy.1 _ (by omega)]; exact g7, ?_⟩
  · rcases h3 with ⟨a, b⟩ | ⟨a, b, r, q⟩
    · exact Or.inl ⟨by rw [hx.1 _ (by omega)]; exact a, by rw [hy.1 _ (by omega)]; exact b⟩
    · refine Or.inr ⟨by rw [hx.1 _ (by omega)]; exact a, by rw [hy.1 _ (by omega)]; exact b, ?_, by rw [hy.2 2 (by omega)]; exact q⟩
      rw [hy.2 2 (by omega)]
      exact r.of (by omega) (fun k hk => hx.1 k (by omega)) (fun k h1 h2 => hx.2 k (by omega) (by omega) (by omega))
  · intro i hi
    rw [snap_eq (hy.2 0 (by omega)) (hy.2 1 (by omega)), snap_eq (hy.2 0 (by omega)) (hy.2 1 (by omega)), hx.2 34 (by omega) (by omega) (by omega), hx.2 35 (by omega) (by omega) (by omega), hx.2 36 (by omega) (by omega) (by omega)]
    exact g8 i hi
theorem inv0 : Inv SX0 SY0 := by
  refine ⟨⟨rfl, rfl, fun l j _ h _ => absurd h (by decide +revert), fun d _ => rfl, fun d k _ _ _ => ⟨rfl, rfl⟩, fun n j _ _ _ => rfl⟩, ⟨by decide, by decide, fun l _ h => absurd h (Nat.not_lt_zero _), fun d _ => ⟨by show (0 : Int) ≤ 0; omega, by show (0 : Int) ≤ 12; omega⟩, fun d k _ _ h => absurd h (Nat.not_lt_zero _), fun n _ h => absurd h (Nat.not_lt_zero _)⟩, Or.inl ⟨rfl, rfl⟩, 0, 0, 0, by omega, by omega, by omega, rfl, rfl, rfl, rfl, fun i h => absurd h (Nat.not_lt_zero _)⟩
