/-! PURE: the reference's channel; the way -/
theorem y_chan1 {D : Nat → Int} {z g p : Nat} (hz : 10000 ≤ z) (hg : g < 256) (hp : p < 256) : ∀ (r k n : Nat) (b f : Int32) (S : St), k + r = 256 → r < n → (∀ q, q < 256 → (fA S 5 q).toInt = D q) →
    ((f = 0 ∧ b = -30000 ∧ ∀ q, q < k → D q ≠ -30000 → ¬ Cn D (D q) g p) ∨ (f = 1 ∧ b.toInt ≠ -30000 ∧ Cn D b.toInt g p ∧ ∀ q, q < k → D q ≠ -30000 → Cn D (D q) g p → D q ≤ b.toInt)) →
    ∃ (c : Int32) (S' : St), mX10_channel_16 z (nI p) (nI g) n b f (nI k) S = some (c, S') ∧ FrY S S' ∧ ((c = -30000 ∧ ¬ Cn D (-30000) g p) ∨ (c.toInt ≠ -30000 ∧ isF D g p c.toInt ∧ ∀ q, q < 256 → fA S' 6 q = bf D c.toInt g q)) := by
  intro r
  induction r with
  | zero =>
    intro k n b f S hk hn hD h
    obtain ⟨n, rfl⟩ : ∃ n', n = n' + 1 := ⟨n - 1, by omega⟩
    have hk' : k = 256 := by omega
    subst hk'
    rw [mX10_channel_16]; unfold mX10_channel_16b
    rw [if_pos (by decide)]
    unfold mX10_channel_91
    rcases h with ⟨rfl, rfl, h3⟩ | ⟨rfl, h2, h3, h4⟩
    · rw [if_pos rfl]
      refine ⟨_, S, rfl, FrY.rf S, Or.inl ⟨rfl, fun hc => ?_⟩⟩
      obtain ⟨q, q1, q2, q3⟩ := cn_val hg hc
      exact h3 q q1 q2.1 q3
    · rw [if_neg one_ne]
      obtain ⟨S', e, e6, fr⟩ := y_flood hz hg hp hD b
      rw [e, ob]
      refine ⟨_, S', rfl, fr, Or.inr ⟨h2, ⟨h3, fun hc => ?_⟩, e6⟩⟩
      obtain ⟨q, q1, q2, q3⟩ := cn_val hg hc
      have := h4 q q1 q2.1 q3
      have := q2.2
      omega
  | succ r ih =>
    intro k n b f S hk hn hD h
    obtain ⟨n, rfl⟩ : ∃ n', n = n' + 1 := ⟨n - 1, by omega⟩
    have dk := hD k (by omega)
    have spl : ∀ P : Nat → Prop, (∀ q, q < k → P q) → P k → ∀ q, q < k + 1 → P q := fun P a b q hq => by
      rcases (show q < k ∨ q = k by omega) with e | e
      · exact a q e
      · rw [e]; exact b
    rw [mX10_channel_16]; unfold mX10_channel_16b
    rw [show (256 : Int32) = nI 256 from rfl, if_neg (by rw [leI (by omega) (by omega)]; omega), rd_nI (by omega) (by omega), ob, nI_1]
    by_cases c : fA S 5 k = (-30000)
    · rw [if_pos c]
      have ck := (unkD dk).mp c
      refine ih (k + 1) n b f S (by omega) (by omega) hD ?_
      rcases h with ⟨h1, h2, h3⟩ | ⟨h1, h2, h3, h4⟩
      · exact Or.inl ⟨h1, h2, spl (fun q => D q ≠ -30000 → ¬ Cn D (D q) g p) h3 (fun h => absurd ck h)⟩
      · exact Or.inr ⟨h1, h2, h3, spl (fun q => D q ≠ -30000 → Cn D (D q) g p → D q ≤ b.toInt) h4 (fun h => absurd ck h)⟩
    · have ck : D k ≠ -30000 := fun h => c ((unkD dk).mpr h)
      rw [if_neg c]
      have flood : ((f = 0 ∧ b = -30000 ∧ ∀ q, q < k → D q ≠ -30000 → ¬ Cn D (D q) g p) ∨ (f = 1 ∧ b.toInt ≠ -30000 ∧ Cn D b.toInt g p ∧ (∀ q, q < k → D q ≠ -30000 → Cn D (D q) g p → D q ≤ b.toInt) ∧ b.toInt < D k)) →
          ∃ (c : Int32) (S' : St), mX10_channel_54 z (mX10_channel_16 z (nI p) (nI g) n) (nI p) (nI g) b f (nI k) S = some (c, S') ∧ FrY S S' ∧ ((c = -30000 ∧ ¬ Cn D (-30000) g p) ∨ (c.toInt ≠ -30000 ∧ isF D g p c.toInt ∧ ∀ q, q < 256 → fA S' 6 q = bf D c.toInt g q)) := by
        intro h
        obtain ⟨S1, e, e6, fr⟩ := y_flood hz hg hp hD (fA S 5 k)
        have hD1 : ∀ q, q < 256 → (fA S1 5 q).toInt = D q := fun q hq => by rw [fr.2 5 (by omega) (by omega)]; exact hD q hq
        unfold mX10_channel_54
        rw [rd_nI (by omega) (by omega), ob, e, ob, nI_1]
        dsimp only
        rw [dk] at e ⊢
        rcases got_iff (D := D) hg hp (D k) with ⟨g0, nc⟩ | ⟨g1, cc⟩
        · rw [g0, if_pos rfl]
          obtain ⟨c', S', x1, x2, x3⟩ := ih (k + 1) n b f S1 (by omega) (by omega) hD1 (by
            rcases h with ⟨h1, h2, h3⟩ | ⟨h1, h2, h3, h4, h5⟩
            · exact Or.inl ⟨h1, h2, spl (fun q => D q ≠ -30000 → ¬ Cn D (D q) g p) h3 (fun _ => nc)⟩
            · exact Or.inr ⟨h1, h2, h3, spl (fun q => D q ≠ -30000 → Cn D (D q) g p → D q ≤ b.toInt) h4 (fun _ h => absurd h nc)⟩)
          exact ⟨c', S', x1, fr.tr x2, x3⟩
        · have ek : fA S1 5 k = fA S 5 k := by rw [fr.2 5 (by omega) (by omega)]
          rw [g1, if_neg one_ne, rd_nI (by omega) (by omega), ob, ek]
          obtain ⟨c', S', x1, x2, x3⟩ := ih (k + 1) n (fA S 5 k) 1 S1 (by omega) (by omega) hD1 (by
            refine Or.inr ⟨rfl, by rw [dk]; exact ck, by rw [dk]; exact cc, ?_⟩
            rw [dk]
            rcases h with ⟨h1, h2, h3⟩ | ⟨h1, h2, h3, h4, h5⟩
            · exact spl (fun q => D q ≠ -30000 → Cn D (D q) g p → D q ≤ D k) (fun q hq h h' => absurd h' (h3 q hq h)) (fun _ _ => Int.le_refl _)
            · exact spl (fun q => D q ≠ -30000 → Cn D (D q) g p → D q ≤ D k) (fun q hq h h' => by have := h4 q hq h h'; omega) (fun _ _ => Int.le_refl _))
          exact ⟨c', S', x1, fr.tr x2, x3⟩
      rcases h with ⟨h1, h2, h3⟩ | ⟨h1, h2, h3, h4⟩
      · rw [if_pos h1]
        exact flood (Or.inl ⟨h1, h2, h3⟩)
      · rw [if_neg (by rw [h1]; exact one_ne), ob]
        by_cases c5 : fA S 5 k ≤ b
        · rw [if_pos c5]; rw [i_le, dk] at c5
          exact ih (k + 1) n b f S (by omega) (by omega) hD (Or.inr ⟨h1, h2, h3, spl (fun q => D q ≠ -30000 → Cn D (D q) g p → D q ≤ b.toInt) h4 (fun _ _ => c5)⟩)
        · rw [if_neg c5]; rw [i_le, dk] at c5
          exact flood (Or.inr ⟨h1, h2, h3, h4, by omega⟩)
theorem y_chan {a : Nat → Int32} {z g p : Nat} (hz : 10000 ≤ z) (hg : g < 256) (hp : p < 256) (hW : WF a) (v : Int32) {S : St} (e0 : fA S 0 = a) :
    ∃ (c : Int32) (S' : St), mX10_channel z v (nI p) (nI g) S = some (c, S') ∧ PY S S' ∧ (∀ q, q < 256 → (fA S' 5 q).toInt = dep a v.toInt q) ∧ ((c = -30000 ∧ ¬ Cn (dep a v.toInt) (-30000) g p) ∨ (c.toInt ≠ -30000 ∧ isF (dep a v.toInt) g p c.toInt ∧ ∀ q, q < 256 → fA S' 6 q = bf (dep a v.toInt) c.toInt g q)) := by
  obtain ⟨Y, ey, d2, py⟩ := y_deps (S := S) hz hW v e0
  unfold mX10_channel
  rw [ey, ob]
  obtain ⟨c, S', x1, x2, x3⟩ := y_chan1 hz hg hp 256 0 z (-30000) 0 Y (by omega) (by omega) d2 (Or.inl ⟨rfl, rfl, fun q hq => by omega⟩)
  exact ⟨c, S', x1, py.tr x2.py, fun q hq => by rw [x2.2 5 (by omega) (by omega)]; exact d2 q hq, x3⟩
-- the way
def pick (st : Nat → Int32) (want : Int32) (q k : Nat) : Option Nat := match nb q k with
  | none => none
  | some w => if st w = want then some w else none
def fs4 (st : Nat → Int32) (want : Int32) (q : Nat) : Nat → Option Nat
  | 0 => none
  | k + 1 => match fs4 st want q k with
    | some w => some w
    | none => pick st want q k
def nxt (st : Nat → Int32) (want : Int32) (q : Nat) : Nat := (fs4 st want q 4).getD q
theorem pick_some {st : Nat → Int32} {want : Int32} {q k w : Nat} (h : pick st want q k = some w) : nb q k = some w ∧ st w = want := by
  unfold pick at h
  cases hn : nb q k with
  | none => rw [hn] at h; cases h
  | some u =>
    rw [hn] at h
    dsimp only at h
    by_cases c : st u = want
    · rw [if_pos c] at h; cases h; exact ⟨rfl, c⟩
    · rw [if_neg c] at h; cases h
theorem fs4_some {st : Nat → Int32} {want : Int32} {q : Nat} : ∀ {k w : Nat}, fs4 st want q k = some w → ∃ j, j < k ∧ nb q j = some w ∧ st w = want := by
  intro k
  induction k with
  | zero => intro w h; cases h
  | succ k ih =>
    intro w h
    unfold fs4 at h
    cases hf : fs4 st want q k with
    | some u =>
      rw [hf] at h; cases h
      obtain ⟨j, j1, j2⟩ := ih hf
      exact ⟨j, by omega, j2⟩
    | none =>
      rw [hf] at h
      obtain ⟨p1, p2⟩ := pick_some h
      exact ⟨k, by omega, p1, p2⟩
theorem fs4_none {st : Nat → Int32} {want : Int32} {q : Nat} : ∀ {k : Nat}, fs4 st want q k = none → ∀ j w, j < k → nb q j = some w → st w ≠ want := by
  intro k
  induction k with
  | zero => intro h j w hj; omega
  | succ k ih =>
    intro h j w hj e hs
    unfold fs4 at h
    cases hf : fs4 st want q k with
    | some u => rw [hf] at h; cases h
    | none =>
      rw [hf] at h
      rcases (show j < k ∨ j = k by omega) with l | l
      · exact ih hf j w l e hs
      · subst l
        unfold pick at h
        rw [e] at h
        dsimp only at h
        rw [if_pos hs] at h; cases h
theorem nb_asc {q j k w u : Nat} (hj : j < k) (hk : k < 4) (h1 : nb q j = some w) (h2 : nb q k = some u) : w ≤ u := by
  have b0 : ∀ {j w}, j < 2 → nb q j = some w → w < q := by
    intro j w hj h
    rcases (show j = 0 ∨ j = 1 by omega) with rfl | rfl
    · unfold nb at h; rw [if_pos rfl] at h
      split at h
      · cases h
      · cases h; omega
    · unfold nb at h; rw [if_neg (by omega), if_pos rfl] at h
      split at h
      · cases h
      · cases h; omega
  have b1 : ∀ {j w}, 2 ≤ j → j < 4 → nb q j = some w → q < w := by
    intro j w hj hj4 h
    rcases (show j = 2 ∨ j = 3 by omega) with rfl | rfl
    · unfold nb at h; rw [if_neg (by omega), if_neg (by omega), if_pos rfl] at h
      split at h
      · cases h
      · cases h; omega
    · unfold nb at h; rw [if_neg (by omega), if_neg (by omega), if_neg (by omega)] at h
      split at h
      · cases h
      · cases h; omega
  by_cases c1 : j < 2
  · by_cases c2 : k < 2
    · have : j = 0 := by omega
      subst this
      have : k = 1 := by omega
      subst this
      unfold nb at h1 h2
      rw [if_pos rfl] at h1
      rw [if_neg (by omega), if_pos rfl] at h2
      split at h1
      · cases h1
      · split at h2
        · cases h2
        · cases h1; cases h2; omega
    · have := b0 c1 h1
      have := b1 (by omega) hk h2
      omega
  · have : j = 2 := by omega
    subst this
    have : k = 3 := by omega
    subst this
    unfold nb at h1 h2
    rw [if_neg (by omega), if_neg (by omega), if_pos rfl] at h1
    rw [if_neg (by omega), if_neg (by omega), if_neg (by omega)] at h2
    split at h1
    · cases h1
    · split at h2
      · cases h2
      · cases h1; cases h2; omega
def encN : Option Nat → Int32
  | none => -1
  | some w => nI w
theorem y_next1 {st : Nat → Int32} {z q : Nat} {want : Int32} {S : St} (hS : ∀ q, q < 256 → fA S 6 q = st q) (hq : q < 256) (hw : st q - 1 = want) (h0 : 0 ≤ want.toInt) (hneg : ∀ q, q < 256 → st q = -1 ∨ 0 ≤ (st q).toInt) : ∀ (r k n : Nat), k + r = 4 → r < n → mX10_next_4 z S (nI q) n (encN (fs4 st want q k)) (nI k) = some (encN (fs4 st want q 4)) := by
  intro r
  induction r with
  | zero =>
    intro k n hk hn
    obtain ⟨n, rfl⟩ : ∃ n', n = n' + 1 := ⟨n - 1, by omega⟩
    have : k = 4 := by omega
    subst this
    rw [mX10_next_4]; unfold mX10_next_4b
    rw [if_pos (by decide)]
  | succ r ih =>
    intro k n hk hn
    obtain ⟨n, rfl⟩ : ∃ n', n = n' + 1 := ⟨n - 1, by omega⟩
    have go := ih (k + 1) n (by omega) (by omega)
    have fk : fs4 st want q (k + 1) = match fs4 st want q k with | some w => some w | none => pick st want q k := rfl
    rw [mX10_next_4]; unfold mX10_next_4b
    rw [show (4 : Int32) = nI 4 from rfl, if_neg (by rw [leI (by omega) (by omega)]; omega), y_beside S hq (by omega), ob, nI_1]
    have same : pick st want q k = none → fs4 st want q (k + 1) = fs4 st want q k := fun h => by
      rw [fk, h]; cases fs4 st want q k <;> rfl
    unfold nbI
    cases hn2 : nb q k with
    | none =>
      dsimp only
      rw [if_pos (by decide), ← same (by unfold pick; rw [hn2])]
      exact go
    | some w =>
      dsimp only
      have hw2 := (nb_lt hq hn2).1
      rw [if_neg (by rw [lt0, nI_ti (by omega)]; omega), rd_nI hw2 (by omega), ob, hS w hw2]
      have pk : pick st want q k = if st w = want then some w else none := by unfold pick; rw [hn2]
      by_cases c : st w < 0
      · rw [if_pos c]; rw [lt0] at c
        rw [if_neg (fun h => by rw [h] at c; omega)] at pk
        rw [← same pk]; exact go
      · rw [if_neg c, ob, rd_nI hq (by omega), ob, hS q hq, hw]
        by_cases c2 : st w = want
        · rw [if_pos c2]
          rw [if_pos c2] at pk
          cases hf : fs4 st want q k with
          | none =>
            rw [hf, pk] at fk
            show (if (-1 : Int32) < 0 then _ else _) = _
            rw [if_pos (by decide)]
            rw [fk] at go; exact go
          | some u =>
            rw [hf] at fk
            obtain ⟨j, j1, j2, j3⟩ := fs4_some hf
            have ul := (nb_lt hq j2).1
            have asc := nb_asc j1 (by omega) j2 hn2
            show (if nI u < 0 then _ else if nI u ≤ nI w then _ else _) = _
            rw [if_neg (by rw [lt0, nI_ti (by omega)]; omega), if_pos (by rw [leI (by omega) (by omega)]; exact asc)]
            rw [fk] at go; exact go
        · rw [if_neg c2]
          rw [if_neg c2] at pk
          rw [← same pk]; exact go
theorem x_lb1 {st : Nat → Int32} {z q : Nat} {want : Int32} {S : St} (hS : ∀ q, q < 256 → fA S 45 q = st q) (hq : q < 256) : ∀ (r k n : Nat), k + r = 4 → r < n → fs4 st want q k = none → mX1_leastBeside_2 z S (nI q) want n (nI k) = some (if want.toInt < 0 then nI q else nI (nxt st want q)) := by
  intro r
  induction r with
  | zero =>
    intro k n hk hn hf
    obtain ⟨n, rfl⟩ : ∃ n', n = n' + 1 := ⟨n - 1, by omega⟩
    have : k = 4 := by omega
    subst this
    rw [mX1_leastBeside_2]; unfold mX1_leastBeside_2b
    rw [if_pos (by decide)]
    unfold nxt
    rw [hf]
    split <;> rfl
  | succ r ih =>
    intro k n hk hn hf
    obtain ⟨n, rfl⟩ : ∃ n', n = n' + 1 := ⟨n - 1, by omega⟩
    have fk : fs4 st want q (k + 1) = pick st want q k := by
      show (match fs4 st want q k with | some w => some w | none => pick st want q k) = _
      rw [hf]
    rw [mX1_leastBeside_2]; unfold mX1_leastBeside_2b
    rw [show (4 : Int32) = nI 4 from rfl, if_neg (by rw [leI (by omega) (by omega)]; omega), x_beside S hq (by omega), ob, nI_1]
    unfold nbI
    cases hn2 : nb q k with
    | none =>
      dsimp only
      rw [if_pos rfl]
      exact ih (k + 1) n (by omega) (by omega) (by rw [fk]; unfold pick; rw [hn2])
    | some w =>
      dsimp only
      have hw2 := (nb_lt hq hn2).1
      rw [if_neg (nI_m1 (by omega))]
      have pk : pick st want q k = if st w = want then some w else none := by unfold pick; rw [hn2]
      by_cases cw : want < 0
      · rw [if_pos cw]; rw [lt0] at cw
        -- the answer is q, whatever is found
        have all : ∀ (r k n : Nat), k + r = 4 → r < n → mX1_leastBeside_2 z S (nI q) want n (nI k) = some (nI q) := by
          intro r
          induction r with
          | zero =>
            intro k n hk hn
            obtain ⟨n, rfl⟩ : ∃ n', n = n' + 1 := ⟨n - 1, by omega⟩
            have : k = 4 := by omega
            subst this
            rw [mX1_leastBeside_2]; unfold mX1_leastBeside_2b
            rw [if_pos (by decide)]
          | succ r ih =>
            intro k n hk hn
            obtain ⟨n, rfl⟩ : ∃ n', n = n' + 1 := ⟨n - 1, by omega⟩
            rw [mX1_leastBeside_2]; unfold mX1_leastBeside_2b
            rw [show (4 : Int32) = nI 4 from rfl, if_neg (by rw [leI (by omega) (by omega)]; omega), x_beside S hq (by omega), ob, nI_1]
            have cw' : want < 0 := by rw [lt0]; exact cw
            by_cases e : nbI q k = -1
            · rw [if_pos e]; exact ih (k + 1) n (by omega) (by omega)
            · rw [if_neg e, if_pos cw']; exact ih (k + 1) n (by omega) (by omega)
        rw [all r (k + 1) n (by omega) (by omega), if_pos cw]
      · rw [if_neg cw]; rw [lt0] at cw
        rw [rd_nI hw2 (by omega), ob, hS w hw2]
        by_cases c2 : st w = want
        · rw [if_pos c2, if_neg cw]
          rw [if_pos c2] at pk
          have stay : ∀ m, k + 1 ≤ m → fs4 st want q m = some w := by
            intro m hm
            induction m with
            | zero => omega
            | succ m ih2 =>
              by_cases e : k = m
              · subst e; rw [fk, pk]
              · show (match fs4 st want q m with | some w => some w | none => pick st want q m) = _
                rw [ih2 (by omega)]
          unfold nxt
          rw [stay 4 (by omega)]; rfl
        · rw [if_neg c2]
          rw [if_neg c2] at pk
          exact ih (k + 1) n (by omega) (by omega) (by rw [fk, pk])
def pth (st : Nat → Int32) (p : Nat) : Nat → Nat
  | 0 => p
  | i + 1 => nxt st (st (pth st p i) - 1) (pth st p i)
/-- the way's squares: step by step down to the goal -/
theorem pth_ok {D : Nat → Int} {t : Int} {g p s : Nat} (hg : g < 256) (hp : p < 256) (hs : bf D t g p = nI s) (s256 : s < 256) : ∀ i, i ≤ s → pth (bf D t g) p i < 256 ∧ bf D t g (pth (bf D t g) p i) = nI (s - i) ∧ (i < s → fs4 (bf D t g) (bf D t g (pth (bf D t g) p i) - 1) (pth (bf D t g) p i) 4 = some (pth (bf D t g) p (i + 1)) ∧ ∃ k, k < 4 ∧ nb (pth (bf D t g) p i) k = some (pth (bf D t g) p (i + 1))) := by
  obtain ⟨b1, b2, b3⟩ := bf_ok (D := D) (t := t) hg
  have step : ∀ i, i ≤ s → pth (bf D t g) p i < 256 → bf D t g (pth (bf D t g) p i) = nI (s - i) → i < s → (fs4 (bf D t g) (bf D t g (pth (bf D t g) p i) - 1) (pth (bf D t g) p i) 4 = some (pth (bf D t g) p (i + 1)) ∧ ∃ k, k < 4 ∧ nb (pth (bf D t g) p i) k = some (pth (bf D t g) p (i + 1))) ∧ bf D t g (pth (bf D t g) p (i + 1)) = nI (s - (i + 1)) := by
    intro i hi h1 h2 hlt
    have e1 : nI (s - i) - 1 = nI (s - (i + 1)) := by rw [show (1 : Int32) = nI 1 from rfl, nI_sub (by omega)]; congr 1
    have tn : (nI (s - i)).toInt = ((s - i : Nat) : Int) := nI_ti (by omega)
    rcases b3 _ h1 (by rw [h2]; exact nI_m1 (by omega)) with ⟨z0, -⟩ | ⟨-, k, w, k1, k2, k3⟩
    · rw [h2, tn] at z0; omega
    · rw [h2, tn] at k3
      have kw : bf D t g w = nI (s - (i + 1)) := by rw [i_eq, k3, nI_ti (by omega)]; omega
      cases hf : fs4 (bf D t g) (bf D t g (pth (bf D t g) p i) - 1) (pth (bf D t g) p i) 4 with
      | none => exact absurd kw (by have := fs4_none hf k w k1 k2; rw [h2, e1] at this; exact this)
      | some u =>
        have eu : pth (bf D t g) p (i + 1) = u := by
          show nxt _ _ _ = u
          unfold nxt; rw [hf]; rfl
        obtain ⟨j, j1, j2, j3⟩ := fs4_some hf
        rw [eu]
        exact ⟨⟨rfl, j, j1, j2⟩, by rw [j3, h2, e1]⟩
  intro i
  induction i with
  | zero => intro _; exact ⟨hp, hs, fun h => (step 0 (by omega) hp hs h).1⟩
  | succ i ih =>
    intro hi
    obtain ⟨h1, h2, h3⟩ := ih (by omega)
    obtain ⟨⟨-, k, k1, k2⟩, st2⟩ := step i (by omega) h1 h2 (by omega)
    have lt := (nb_lt h1 k2).1
    exact ⟨lt, st2, fun h => (step (i + 1) (by omega) lt st2 h).1⟩
theorem y_next {D : Nat → Int} {t : Int} {g p s z i : Nat} (hz : 10000 ≤ z) {S : St} (hS : ∀ q, q < 256 → fA S 6 q = bf D t g q) (hg : g < 256) (hp : p < 256) (hs : bf D t g p = nI s) (s256 : s < 256) (hi : i < s) : mX10_next z S (nI (pth (bf D t g) p i)) = some (nI (pth (bf D t g) p (i + 1))) := by
  obtain ⟨h1, h2, h3⟩ := pth_ok hg hp hs s256 i (by omega)
  obtain ⟨f, -⟩ := h3 hi
  unfold mX10_next
  have e1 : nI (s - i) - 1 = nI (s - (i + 1)) := by rw [show (1 : Int32) = nI 1 from rfl, nI_sub (by omega)]; congr 1
  have := y_next1 (z := z) (st := bf D t g) (want := bf D t g (pth (bf D t g) p i) - 1) hS h1 rfl (by rw [h2, e1, nI_ti (by omega)]; omega) (fun q hq => by
    rcases (bf_ok (D := D) (t := t) hg).2.1 q hq with c | c
    · exact Or.inl c
    · exact Or.inr c.1) 4 0 z (by omega) (by omega)
  rw [f] at this
  exact this
