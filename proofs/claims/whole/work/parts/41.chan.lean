/-! PURE: joined, the greatest floor -/
theorem x_joins {D : Nat → Int} {z g p : Nat} (hz : 10000 ≤ z) (hg : g < 256) (hp : p < 256) {S : St} (hD : ∀ q, q < 256 → (fA S 44 q).toInt = D q) (t : Int32) :
    ∃ S', mX1_joins z (nI p) (nI g) t S = some (got (bf D t.toInt g p), S') ∧ FrX S S' := by
  obtain ⟨S', e, h, r⟩ := x_flood hz hg hD t
  unfold mX1_joins
  rw [e, ob, rd_nI hp (by omega), ob, h p hp]
  refine ⟨S', ?_, r⟩
  unfold got
  rcases (bf_ok (D := D) (t := t.toInt) hg).2.1 p hp with c | c
  · rw [if_pos c, if_pos (by rw [c]; decide)]
  · rw [if_neg (ne1 c.1), if_neg (by rw [lt0]; omega)]
theorem got_iff {D : Nat → Int} {g p : Nat} (hg : g < 256) (hp : p < 256) (t : Int) : (got (bf D t g p) = 0 ∧ ¬ Cn D t g p) ∨ (got (bf D t g p) = 1 ∧ Cn D t g p) := by
  obtain ⟨h1, h2, -⟩ := bf_ok (D := D) (t := t) hg
  unfold got
  rcases h2 p hp with c | c
  · exact Or.inl ⟨by rw [if_pos (by rw [c]; decide)], fun h => (h1 p hp).mpr h c⟩
  · exact Or.inr ⟨by rw [if_neg (by rw [lt0]; omega)], (h1 p hp).mp (ne1 c.1)⟩
theorem y_asked (S : St) (v1 v2 v3 : Int32) : mX10_isAsked S v1 v2 v3 = some (if (0 ≤ v1.toInt ∧ v1.toInt ≤ 99) ∧ (0 ≤ v2.toInt ∧ v2.toInt ≤ 255) ∧ (0 ≤ v3.toInt ∧ v3.toInt ≤ 255) then 1 else 0) := by
  unfold mX10_isAsked
  rw [y_in2 (B := 0) (C := 99) rfl rfl, ob]
  by_cases c1 : 0 ≤ v1.toInt ∧ v1.toInt ≤ 99
  · rw [if_pos c1, if_neg one_ne, y_in2 (B := 0) (C := 255) rfl rfl, ob]
    by_cases c2 : 0 ≤ v2.toInt ∧ v2.toInt ≤ 255
    · rw [if_pos c2, if_neg one_ne, y_in2 (B := 0) (C := 255) rfl rfl, ob]
      by_cases c3 : 0 ≤ v3.toInt ∧ v3.toInt ≤ 255
      · rw [if_pos c3, if_neg one_ne, if_pos ⟨c1, c2, c3⟩]
      · rw [if_neg c3, if_pos rfl, if_neg (fun h => c3 h.2.2)]
    · rw [if_neg c2, if_pos rfl, if_neg (fun h => c2 h.2.1)]
  · rw [if_neg c1, if_pos rfl, if_neg (fun h => c1 h.1)]
abbrev asked (v1 v2 v3 : Int32) : Prop := (0 ≤ v1.toInt ∧ v1.toInt ≤ 99) ∧ (0 ≤ v2.toInt ∧ v2.toInt ≤ 255) ∧ (0 ≤ v3.toInt ∧ v3.toInt ≤ 255)
theorem y_asked1 (S : St) {v1 v2 v3 : Int32} (h : asked v1 v2 v3) : mX10_isAsked S v1 v2 v3 = some 1 := by rw [y_asked, if_pos h]
theorem y_asked0 (S : St) {v1 v2 v3 : Int32} (h : ¬ asked v1 v2 v3) : mX10_isAsked S v1 v2 v3 = some 0 := by rw [y_asked, if_neg h]
theorem zb_got (x : Int32) {α : Type} (y : α) : zb (got x) y = some y := by unfold got; exact zb_ite y
theorem FrX.px {S S' : St} (h : FrX S S') : PX S S' := ⟨fun k hk => h.1 k (by omega), fun k _ _ hk => h.2 k (by omega) (by omega)⟩
theorem FrY.py {S S' : St} (h : FrY S S') : PY S S' := ⟨fun k _ => by unfold fI; rw [h.1], fun k hk => h.2 k (by omega) (by omega)⟩
theorem y_deps {a : Nat → Int32} {z : Nat} (hz : 10000 ≤ z) (hW : WF a) (v : Int32) {S : St} (e0 : fA S 0 = a) : ∃ S', mX10_depths z v S = some S' ∧ (∀ q, q < 256 → (fA S' 5 q).toInt = dep a v.toInt q) ∧ PY S S' := by
  unfold mX10_depths
  obtain ⟨S', x1, x2, x3, x4⟩ := y_depths hz hW v 256 0 z S (by omega) (by omega) e0 (fun q hq => by omega)
  exact ⟨S', x1, x2, fun k _ => (by unfold fI; rw [x3]), fun k hk => x4 k (by omega)⟩
theorem p_draught {z : Nat} (hz : 10000 ≤ z) : ok_draught z Inv := by
  intro Sx Sy v1 v2 v3 v4 hI
  unfold mX9_draught mX10_draught
  rw [x_day, ob]
  by_cases c1 : 0 ≤ v1.toInt ∧ v1.toInt ≤ 99
  · rw [if_pos c1, if_neg one_ne, x_sq, ob]
    by_cases c2 : 0 ≤ v2.toInt ∧ v2.toInt ≤ 255
    · rw [if_pos c2, if_neg one_ne, x_sq, ob]
      by_cases c3 : 0 ≤ v3.toInt ∧ v3.toInt ≤ 255
      · rw [if_pos c3, if_neg one_ne, y_asked1 Sy ⟨c1, c2, c3⟩, ob, if_neg one_ne]
        obtain ⟨p, rfl, hp⟩ := i_ex c2.1
        obtain ⟨g, rfl, hg⟩ := i_ex c3.1
        obtain ⟨X, ex, i1, a1, d1⟩ := x_draw hz hI.2.1 hI.1 v1
        obtain ⟨Y, ey, d2, py⟩ := y_deps (S := Sy) hz hI.2.1 v1 rfl
        obtain ⟨X', ex', fx⟩ := x_joins (g := g) (p := p) hz (by omega) (by omega) d1 v4
        obtain ⟨Y', ey', -, fy⟩ := y_flood (g := g) (p := p) hz (by omega) (by omega) d2 v4
        rw [ex, ob, ey, ob, ex', ob, ey', ob]
        dsimp only
        rw [zb_got, zb_got]
        exact ⟨_, _, rfl, rfl, rfl, hI.keep ((px_of i1 a1).tr fx.px) (py.tr fy.py)⟩
      · rw [if_neg c3, if_pos rfl, y_asked0 Sy (fun h => c3 h.2.2), ob, if_pos rfl]
        exact ⟨_, _, rfl, rfl, rfl, hI⟩
    · rw [if_neg c2, if_pos rfl, y_asked0 Sy (fun h => c2 h.2.1), ob, if_pos rfl]
      exact ⟨_, _, rfl, rfl, rfl, hI⟩
  · rw [if_neg c1, if_pos rfl, y_asked0 Sy (fun h => c1 h.1), ob, if_pos rfl]
    exact ⟨_, _, rfl, rfl, rfl, hI⟩
/-- the greatest floor -/
def isF (D : Nat → Int) (g p : Nat) (F : Int) : Prop := Cn D F g p ∧ ¬ Cn D (F + 1) g p
theorem cn_down {D : Nat → Int} {t t' : Int} {g q : Nat} (hg : g < 256) (h : t' ≤ t) (c : Cn D t g q) : Cn D t' g q := c.mono hg (fun q _ o => okD_mono h q o)
theorem isF_uniq {D : Nat → Int} {g p : Nat} {F G : Int} (hg : g < 256) (h : isF D g p F) (k : isF D g p G) : F = G := by
  rcases (show F = G ∨ F + 1 ≤ G ∨ G + 1 ≤ F by omega) with e | e | e
  · exact e
  · exact absurd (cn_down hg e k.1) h.2
  · exact absurd (cn_down hg e h.1) k.2
theorem isF_val {D : Nat → Int} {g p : Nat} {F : Int} (hg : g < 256) (h : isF D g p F) : ∃ q, q < 256 ∧ D q = F ∧ D q ≠ -30000 := by
  refine Classical.byContradiction (fun hn => h.2 ?_)
  refine h.1.mono hg (fun q hq o => ⟨o.1, ?_⟩)
  have : D q ≠ F := fun e => hn ⟨q, hq, e, o.1⟩
  have := o.2
  omega
theorem min_ex {D : Nat → Int} {t : Int} : ∀ n, (∃ q, q < n ∧ okD D t q) → ∃ q, q < n ∧ okD D t q ∧ ∀ w, w < n → okD D t w → D q ≤ D w := by
  intro n
  induction n with
  | zero => intro ⟨q, h, _⟩; omega
  | succ n ih =>
    intro ⟨q, hq, oq⟩
    by_cases c : ∃ q, q < n ∧ okD D t q
    · obtain ⟨m, m1, m2, m3⟩ := ih c
      by_cases c2 : okD D t n ∧ D n < D m
      · refine ⟨n, by omega, c2.1, fun w hw ow => ?_⟩
        rcases (show w < n ∨ w = n by omega) with e | e
        · have := m3 w e ow; omega
        · rw [e]; exact Int.le_refl _
      · refine ⟨m, by omega, m2, fun w hw ow => ?_⟩
        rcases (show w < n ∨ w = n by omega) with e | e
        · exact m3 w e ow
        · subst e
          rcases Int.lt_or_le (D w) (D m) with l | l
          · exact absurd ⟨ow, l⟩ c2
          · exact l
    · have : q = n := by
        rcases (show q < n ∨ q = n by omega) with e | e
        · exact absurd ⟨q, e, oq⟩ c
        · exact e
      subst this
      refine ⟨q, by omega, oq, fun w hw ow => ?_⟩
      rcases (show w < q ∨ w = q by omega) with e | e
      · exact absurd ⟨w, e, ow⟩ c
      · rw [e]; exact Int.le_refl _
theorem cn_val {D : Nat → Int} {t : Int} {g p : Nat} (hg : g < 256) (h : Cn D t g p) : ∃ q, q < 256 ∧ okD D t q ∧ Cn D (D q) g p := by
  obtain ⟨q, q1, q2, q3⟩ := min_ex (D := D) (t := t) 256 ⟨g, hg, okg h⟩
  exact ⟨q, q1, q2, h.mono hg (fun w hw o => ⟨o.1, q3 w hw o⟩)⟩
theorem x_least {D : Nat → Int} {z : Nat} (hB : ∀ q, D q = -30000 ∨ (-251 ≤ D q ∧ D q ≤ 20200)) {S : St} (hD : ∀ q, q < 256 → (fA S 44 q).toInt = D q) : ∀ (r k n : Nat) (v : Int32), k + r = 256 → r < n → ((v = -30000 ∧ ∀ q, q < k → D q = -30000) ∨ (-251 ≤ v.toInt ∧ v.toInt ≤ 20200 ∧ ∀ q, q < k → D q ≠ -30000 → v.toInt ≤ D q)) →
    ∃ m : Int32, mX2_leastDepth_6 z S n v (nI k) = some m ∧ ((m = -30000 ∧ ∀ q, q < 256 → D q = -30000) ∨ (-251 ≤ m.toInt ∧ m.toInt ≤ 20200 ∧ ∀ q, q < 256 → D q ≠ -30000 → m.toInt ≤ D q)) := by
  intro r
  induction r with
  | zero =>
    intro k n v hk hn h
    obtain ⟨n, rfl⟩ : ∃ n', n = n' + 1 := ⟨n - 1, by omega⟩
    have hk' : k = 256 := by omega
    subst hk'
    rw [mX2_leastDepth_6]; unfold mX2_leastDepth_6b
    rw [if_pos (by decide)]
    exact ⟨v, rfl, h⟩
  | succ r ih =>
    intro k n v hk hn h
    obtain ⟨n, rfl⟩ : ∃ n', n = n' + 1 := ⟨n - 1, by omega⟩
    rw [mX2_leastDepth_6]; unfold mX2_leastDepth_6b
    have dk := hD k (by omega)
    have bk := hB k
    rw [show (256 : Int32) = nI 256 from rfl, if_neg (by rw [leI (by omega) (by omega)]; omega), rd_nI (by omega) (by omega), ob, nI_1]
    have spl : ∀ P : Nat → Prop, (∀ q, q < k → P q) → P k → ∀ q, q < k + 1 → P q := fun P a b q hq => by
      rcases (show q < k ∨ q = k by omega) with e | e
      · exact a q e
      · rw [e]; exact b
    by_cases c : fA S 44 k = (-30000)
    · rw [if_pos c]
      have ck := (unkD dk).mp c
      refine ih (k + 1) n v (by omega) (by omega) ?_
      rcases h with ⟨h1, h2⟩ | ⟨h1, h2, h3⟩
      · exact Or.inl ⟨h1, spl _ h2 ck⟩
      · exact Or.inr ⟨h1, h2, spl (fun q => D q ≠ -30000 → v.toInt ≤ D q) h3 (fun h => absurd ck h)⟩
    · rw [if_neg c]
      have ck : D k ≠ -30000 := fun h => c ((unkD dk).mpr h)
      rcases h with ⟨h1, h2⟩ | ⟨h1, h2, h3⟩
      · rw [if_pos h1]
        exact ih (k + 1) n _ (by omega) (by omega) (Or.inr ⟨by omega, by omega, spl (fun q => D q ≠ -30000 → (fA S 44 k).toInt ≤ D q) (fun q hq h => absurd (h2 q hq) h) (fun _ => by omega)⟩)
      · rw [if_neg (fun e => by rw [unkD rfl] at e; omega)]
        by_cases c2 : v ≤ fA S 44 k
        · rw [if_pos c2]; rw [i_le, dk] at c2
          exact ih (k + 1) n v (by omega) (by omega) (Or.inr ⟨h1, h2, spl (fun q => D q ≠ -30000 → v.toInt ≤ D q) h3 (fun _ => c2)⟩)
        · rw [if_neg c2]; rw [i_le, dk] at c2
          exact ih (k + 1) n _ (by omega) (by omega) (Or.inr ⟨by omega, by omega, spl (fun q => D q ≠ -30000 → (fA S 44 k).toInt ≤ D q) (fun q hq h => by have := h3 q hq h; omega) (fun _ => by omega)⟩)
theorem half {lo hi : Int32} (h1 : -251 ≤ lo.toInt) (h2 : lo.toInt < hi.toInt) (h3 : hi.toInt ≤ 20200) : (lo + ((hi - lo) + 1) / 2).toInt = lo.toInt + (hi.toInt - lo.toInt + 1) / 2 := by
  have o : (1 : Int32).toInt = 1 := rfl
  have w : (2 : Int32).toInt = 2 := rfl
  have e1 : (hi - lo).toInt = hi.toInt - lo.toInt := ti_sub (by omega) (by omega)
  have e2 : ((hi - lo) + 1).toInt = hi.toInt - lo.toInt + 1 := by rw [ti_add (by rw [o]; omega) (by rw [o]; omega), e1, o]
  obtain ⟨k, ek, hk⟩ := i_ex (x := (hi - lo) + 1) (by omega)
  have e3 : (((hi - lo) + 1) / 2).toInt = (hi.toInt - lo.toInt + 1) / 2 := by
    rw [ek, show (2 : Int32) = nI 2 from rfl, pk_div (by omega) (by omega) (by omega), nI_ti (by omega)]
    omega
  rw [ti_add (by omega) (by omega), e3]
theorem x_great {D : Nat → Int} {z g p : Nat} (hz : 10000 ≤ z) (hg : g < 256) (hp : p < 256) : ∀ (r n : Nat) (i lo hi : Int32) (S : St), i.toInt + r = 40 → r < n → r ≤ 40 → (∀ q, q < 256 → (fA S 44 q).toInt = D q) → -251 ≤ lo.toInt → lo.toInt ≤ hi.toInt → hi.toInt ≤ 20200 → hi.toInt - lo.toInt < 2 ^ r → Cn D lo.toInt g p → ¬ Cn D (hi.toInt + 1) g p →
    ∃ (F : Int32) (S' : St), mX1_greatestFloor_34 z (nI p) (nI g) n lo hi i S = some (F, S') ∧ isF D g p F.toInt ∧ FrX S S' := by
  intro r
  induction r with
  | zero =>
    intro n i lo hi S hi0 hn _ hD h1 h2 h3 h4 h5 h6
    obtain ⟨n, rfl⟩ : ∃ n', n = n' + 1 := ⟨n - 1, by omega⟩
    rw [mX1_greatestFloor_34]; unfold mX1_greatestFloor_34b
    rw [if_pos (by rw [i_le]; show (40 : Int) ≤ _; omega)]
    have : hi.toInt = lo.toInt := by have : (2 : Int) ^ 0 = 1 := rfl; omega
    exact ⟨lo, S, rfl, ⟨h5, by rw [← this]; exact h6⟩, FrX.rf S⟩
  | succ r ih =>
    intro n i lo hi S hi0 hn hr hD h1 h2 h3 h4 h5 h6
    obtain ⟨n, rfl⟩ : ∃ n', n = n' + 1 := ⟨n - 1, by omega⟩
    have o : (1 : Int32).toInt = 1 := rfl
    rw [mX1_greatestFloor_34]; unfold mX1_greatestFloor_34b
    rw [if_neg (by rw [i_le]; show ¬ (40 : Int) ≤ _; omega)]
    by_cases c : hi ≤ lo
    · rw [if_pos c]; rw [i_le] at c
      have : hi.toInt = lo.toInt := by omega
      exact ⟨lo, S, rfl, ⟨h5, by rw [← this]; exact h6⟩, FrX.rf S⟩
    · rw [if_neg c]; rw [i_le] at c
      have hm := half h1 (by omega) h3
      obtain ⟨S1, e1, f1⟩ := x_joins hz hg hp hD (lo + ((hi - lo) + 1) / 2)
      have hD1 : ∀ q, q < 256 → (fA S1 44 q).toInt = D q := fun q hq => by rw [f1.2 44 (by omega) (by omega)]; exact hD q hq
      have pw : (2 : Int) ^ (r + 1) = 2 * 2 ^ r := by rw [Int.pow_succ]; omega
      have i1 : (i + 1).toInt = i.toInt + 1 := by rw [ti_add (by rw [o]; omega) (by rw [o]; omega), o]
      rw [e1, ob]
      generalize lo + ((hi - lo) + 1) / 2 = m at *
      dsimp only
      rcases got_iff (D := D) hg hp m.toInt with ⟨g0, nc⟩ | ⟨g1, cc⟩
      · rw [g0, if_pos rfl]
        have m1 : (m - 1).toInt = m.toInt - 1 := by rw [ti_sub (by rw [o]; omega) (by rw [o]; omega), o]
        obtain ⟨F, S', x1, x2, x3⟩ := ih n (i + 1) lo (m - 1) S1 (by omega) (by omega) (by omega) hD1 h1 (by omega) (by omega) (by omega) h5 (by rw [m1, show m.toInt - 1 + 1 = m.toInt by omega]; exact nc)
        exact ⟨F, S', x1, x2, f1.tr x3⟩
      · rw [g1, if_neg one_ne]
        obtain ⟨F, S', x1, x2, x3⟩ := ih n (i + 1) m hi S1 (by omega) (by omega) (by omega) hD1 (by omega) (by omega) (by omega) (by omega) cc h6
        exact ⟨F, S', x1, x2, f1.tr x3⟩
theorem x_floor {D : Nat → Int} {z g p : Nat} (hz : 10000 ≤ z) (hg : g < 256) (hp : p < 256) (hB : ∀ q, D q = -30000 ∨ (-251 ≤ D q ∧ D q ≤ 20200)) {S : St} (hD : ∀ q, q < 256 → (fA S 44 q).toInt = D q) (hC : Cn D (-30000) g p) :
    ∃ (F : Int32) (S' : St), mX1_greatestFloor z (nI p) (nI g) S = some (F, S') ∧ isF D g p F.toInt ∧ FrX S S' := by
  unfold mX1_greatestFloor mX2_leastDepth mJ9_min
  obtain ⟨m, em, hm⟩ := x_least (z := z) hB hD 256 0 z (-30000) (by omega) (by omega) (Or.inl ⟨rfl, fun q hq => by omega⟩)
  have kp := hC.ok.1
  have kg := (okg hC).1
  rcases hm with ⟨-, h⟩ | ⟨m1, m2, m3⟩
  · exact absurd (h p hp) kp
  rw [show (0 : Int32) = nI 0 from rfl, em, ob, rd_nI hp (by omega), ob, rd_nI hg (by omega), ob]
  have bp := hB p
  have bg := hB g
  have lp := m3 p hp kp
  have lg := m3 g hg kg
  have dp := hD p hp
  have dg := hD g hg
  have cm : Cn D m.toInt g p := hC.mono hg (fun q hq o => ⟨o.1, m3 q hq o.1⟩)
  have pw : (2 : Int) ^ 40 = 1099511627776 := rfl
  by_cases c : fA S 44 g < fA S 44 p
  · rw [if_pos c, ob]; rw [i_lt] at c
    exact x_great hz hg hp 40 z (nI 0) m (fA S 44 g) S (by rw [nI_ti (by omega)]; omega) (by omega) (by omega) hD m1 (by omega) (by omega) (by omega) cm (fun h => by have := (okg h).2; omega)
  · rw [if_neg c, ob]; rw [i_lt] at c
    exact x_great hz hg hp 40 z (nI 0) m (fA S 44 p) S (by rw [nI_ti (by omega)]; omega) (by omega) (by omega) hD m1 (by omega) (by omega) (by omega) cm (fun h => by have := h.ok.2; omega)
