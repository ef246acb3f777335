/-! PURE: a flood over 256 squares -/
def nb (v k : Nat) : Option Nat := if k = 0 then (if v < 16 then none else some (v - 16)) else if k = 1 then (if v % 16 = 0 then none else some (v - 1)) else if k = 2 then (if v % 16 = 15 then none else some (v + 1)) else (if 240 ≤ v then none else some (v + 16))
theorem nb_lt {v k w : Nat} (hv : v < 256) (h : nb v k = some w) : w < 256 ∧ w ≠ v := by
  unfold nb at h
  repeat' split at h
  all_goals first | (cases h; done) | (cases h; omega)
theorem nb_sym {v k w : Nat} (hv : v < 256) (hk : k < 4) (h : nb v k = some w) : ∃ j, j < 4 ∧ nb w j = some v := by
  rcases (show k = 0 ∨ k = 1 ∨ k = 2 ∨ k = 3 by omega) with rfl | rfl | rfl | rfl
  · refine ⟨3, by omega, ?_⟩
    unfold nb at h ⊢
    simp only [if_true] at h
    split at h
    · cases h
    · cases h
      rw [if_neg (by omega), if_neg (by omega), if_neg (by omega), if_neg (by omega)]; congr 1; omega
  · refine ⟨2, by omega, ?_⟩
    unfold nb at h ⊢
    rw [if_neg (by omega), if_pos rfl] at h
    split at h
    · cases h
    · cases h
      rw [if_neg (by omega), if_neg (by omega), if_pos rfl, if_neg (by omega)]; congr 1; omega
  · refine ⟨1, by omega, ?_⟩
    unfold nb at h ⊢
    rw [if_neg (by omega), if_neg (by omega), if_pos rfl] at h
    split at h
    · cases h
    · cases h
      rw [if_neg (by omega), if_pos rfl, if_neg (by omega)]; congr 1
  · refine ⟨0, by omega, ?_⟩
    unfold nb at h ⊢
    rw [if_neg (by omega), if_neg (by omega), if_neg (by omega)] at h
    split at h
    · cases h
    · cases h
      rw [if_pos rfl, if_neg (by omega)]; congr 1
/-- known and deep enough -/
abbrev okD (D : Nat → Int) (t : Int) (q : Nat) : Prop := D q ≠ -30000 ∧ t ≤ D q
abbrev Bs : Type := (Nat → Int32) × (Nat → Int32) × Nat
def on1 (D : Nat → Int) (t : Int) (v k : Nat) (B : Bs) : Bs := match nb v k with
  | none => B
  | some w => if B.1 w = -1 ∧ okD D t w then (upd B.1 w (B.1 v + 1), upd B.2.1 B.2.2 (nI w), B.2.2 + 1) else B
def four (D : Nat → Int) (t : Int) (v : Nat) (B : Bs) : Bs := on1 D t v 3 (on1 D t v 2 (on1 D t v 1 (on1 D t v 0 B)))
def bfl (D : Nat → Int) (t : Int) : Nat → Nat → Bs → Bs
  | 0, _, B => B
  | n + 1, h, B => if B.2.2 ≤ h then B else bfl D t n (h + 1) (four D t (B.2.1 h).toInt.toNat B)
def bf0 (D : Nat → Int) (t : Int) (g : Nat) : Bs := if okD D t g then (upd (fun _ => -1) g 0, upd (fun _ => 0) 0 (nI g), 1) else (fun _ => -1, fun _ => 0, 0)
def bf (D : Nat → Int) (t : Int) (g : Nat) : Nat → Int32 := (bfl D t 257 0 (bf0 D t g)).1
def cnt (st : Nat → Int32) : Nat → Nat
  | 0 => 0
  | n + 1 => cnt st n + if st n = -1 then 0 else 1
theorem cnt_le (st : Nat → Int32) : ∀ n, cnt st n ≤ n := by
  intro n; induction n with
  | zero => exact Nat.le_refl _
  | succ n ih => unfold cnt; split <;> omega
theorem cnt_up (st : Nat → Int32) {w : Nat} {s : Int32} (h : st w = -1) (hs : s ≠ -1) : ∀ n, cnt (upd st w s) n = cnt st n + if w < n then 1 else 0 := by
  intro n; induction n with
  | zero => rfl
  | succ n ih =>
    unfold cnt
    rw [ih, up_e]
    by_cases c : n = w
    · subst c
      rw [if_pos rfl, if_neg hs, if_pos h, if_neg (by omega), if_pos (by omega)]
    · rw [if_neg c]
      by_cases c2 : w < n
      · rw [if_pos c2, if_pos (c := w < n + 1) (by omega)]; omega
      · rw [if_neg c2, if_neg (c := w < n + 1) (by omega)]; omega
/-- joined to g over squares deep enough -/
def Cn (D : Nat → Int) (t : Int) (g q : Nat) : Prop := ∀ P : Nat → Prop, (okD D t g → P g) → (∀ q w k, P q → k < 4 → nb q k = some w → okD D t w → P w) → P q
theorem Cn.rf {D : Nat → Int} {t : Int} {g : Nat} (h : okD D t g) : Cn D t g g := fun _ a _ => a h
theorem Cn.st {D : Nat → Int} {t : Int} {g q w k : Nat} (h : Cn D t g q) (hk : k < 4) (e : nb q k = some w) (o : okD D t w) : Cn D t g w := fun P a b => b q w k (h P a b) hk e o
theorem Cn.ind {D : Nat → Int} {t : Int} {g : Nat} (P : Nat → Prop) (a : okD D t g → P g) (b : ∀ q w k, P q → k < 4 → nb q k = some w → okD D t w → P w) {q : Nat} (h : Cn D t g q) : P q := h P a b
theorem Cn.ok {D : Nat → Int} {t : Int} {g q : Nat} (h : Cn D t g q) : okD D t q := h _ (fun h => h) (fun _ _ _ _ _ _ h => h)
theorem Cn.lt {D : Nat → Int} {t : Int} {g q : Nat} (hg : g < 256) (h : Cn D t g q) : q < 256 := h (fun q => q < 256) (fun _ => hg) (fun _ _ _ i _ e _ => (nb_lt i e).1)
theorem Cn.mono {D : Nat → Int} {t t' : Int} {g q : Nat} (hg : g < 256) (ht : ∀ q, q < 256 → okD D t q → okD D t' q) (h : Cn D t g q) : Cn D t' g q := by
  have : q < 256 ∧ Cn D t' g q := h (fun q => q < 256 ∧ Cn D t' g q) (fun h => ⟨hg, .rf (ht _ hg h)⟩) (fun _ _ _ i k e o => ⟨(nb_lt i.1 e).1, i.2.st k e (ht _ (nb_lt i.1 e).1 o)⟩)
  exact this.2
theorem okD_mono {D : Nat → Int} {t t' : Int} (h : t' ≤ t) (q : Nat) (o : okD D t q) : okD D t' q := ⟨o.1, by have := o.2; omega⟩
theorem okg {D : Nat → Int} {t : Int} {g q : Nat} (h : Cn D t g q) : okD D t g := by
  have : okD D t g ∧ True := h (fun _ => okD D t g ∧ True) (fun h => ⟨h, trivial⟩) (fun _ _ _ i _ _ _ => i)
  exact this.1
/-- the flood's constant truth -/
def BI (D : Nat → Int) (t : Int) (g : Nat) (B : Bs) : Prop :=
  B.2.2 = cnt B.1 256 ∧
  (∀ i, i < B.2.2 → ∃ q, q < 256 ∧ B.2.1 i = nI q ∧ 0 ≤ (B.1 q).toInt ∧ (B.1 q).toInt ≤ i) ∧
  (∀ q, q < 256 → B.1 q ≠ -1 → ∃ i, i < B.2.2 ∧ B.2.1 i = nI q) ∧
  (∀ q, q < 256 → B.1 q ≠ -1 → Cn D t g q) ∧
  (∀ q, q < 256 → B.1 q ≠ -1 → (B.1 q).toInt = 0 ∧ q = g ∨ 0 < (B.1 q).toInt ∧ ∃ k w, k < 4 ∧ nb q k = some w ∧ (B.1 w).toInt = (B.1 q).toInt - 1)
def Dn (D : Nat → Int) (t : Int) (B : Bs) (v : Nat) (k : Nat) : Prop := ∀ j w, j < k → nb v j = some w → okD D t w → B.1 w ≠ -1
theorem ne1 {x : Int32} (h : 0 ≤ x.toInt) : x ≠ -1 := fun e => by rw [e] at h; exact absurd h (by decide)
theorem one_same {D : Nat → Int} {t : Int} {v k : Nat} {B : Bs} {q : Nat} (h : B.1 q ≠ -1) : (on1 D t v k B).1 q = B.1 q := by
  unfold on1
  split
  · rfl
  · split
    · rename_i w _ c
      show upd B.1 w _ q = _
      exact up_n _ _ (fun e => h (by rw [e]; exact c.1))
    · rfl
theorem BI_one {D : Nat → Int} {t : Int} {g h v k : Nat} {B : Bs} (H : BI D t g B) (hh : h < B.2.2) (hv : v < 256) (ev : B.2.1 h = nI v) (hk : k < 4) (hd : Dn D t B v k) :
    BI D t g (on1 D t v k B) ∧ (∀ i, i < B.2.2 → (on1 D t v k B).2.1 i = B.2.1 i) ∧ B.2.2 ≤ (on1 D t v k B).2.2 ∧ Dn D t (on1 D t v k B) v (k + 1) := by
  obtain ⟨q, hq, eq, s0, s1⟩ := H.2.1 h hh
  have qv : q = v := by
    have : nI q = nI v := eq.symm.trans ev
    rwa [nI_eq (by omega) (by omega)] at this
  subst qv
  have sv : B.1 q ≠ -1 := ne1 s0
  have hc := cnt_le B.1 256
  have hcn := H.1
  have dn : ∀ B', (∀ w, B.1 w ≠ -1 → B'.1 w ≠ -1) → (∀ w, nb q k = some w → okD D t w → B'.1 w ≠ -1) → Dn D t B' q (k + 1) := by
    intro B' h1 h2 j w hj ej oj
    rcases (show j < k ∨ j = k by omega) with h | h
    · exact h1 w (hd j w h ej oj)
    · subst h; exact h2 w ej oj
  unfold on1
  cases hn : nb q k with
  | none => exact ⟨H, fun _ _ => rfl, Nat.le_refl _, dn B (fun _ h => h) (fun w h => by rw [hn] at h; cases h)⟩
  | some w =>
    dsimp only
    obtain ⟨hw, hwv⟩ := nb_lt hv hn
    by_cases c : B.1 w = -1 ∧ okD D t w
    · rw [if_pos c]
      have sp : (B.1 q + 1).toInt = (B.1 q).toInt + 1 := by
        have o : (1 : Int32).toInt = 1 := rfl
        rw [ti_add (by rw [o]; omega) (by rw [o]; omega), o]
      have sn : B.1 q + 1 ≠ -1 := ne1 (by omega)
      have cu := cnt_up B.1 (s := B.1 q + 1) c.1 sn 256
      rw [if_pos hw] at cu
      have old : ∀ p, p ≠ w → upd B.1 w (B.1 q + 1) p = B.1 p := fun p hp => up_n _ _ hp
      have nw : ∀ p, B.1 p ≠ -1 → p ≠ w := fun p hp e => hp (by rw [e]; exact c.1)
      refine ⟨⟨?_, ?_, ?_, ?_, ?_⟩, ?_, ?_, ?_⟩
      · show B.2.2 + 1 = cnt (upd B.1 w (B.1 q + 1)) 256
        omega
      · intro i hi
        by_cases ci : i = B.2.2
        · subst ci
          refine ⟨w, hw, up_s _ _ _, ?_⟩
          show 0 ≤ (upd B.1 w (B.1 q + 1) w).toInt ∧ (upd B.1 w (B.1 q + 1) w).toInt ≤ _
          rw [up_s]; omega
        · have hi' : i < B.2.2 + 1 := hi
          obtain ⟨p, a1, a2, a3, a4⟩ := H.2.1 i (by omega)
          refine ⟨p, a1, (up_n _ _ ci).trans a2, ?_⟩
          show 0 ≤ (upd B.1 w (B.1 q + 1) p).toInt ∧ (upd B.1 w (B.1 q + 1) p).toInt ≤ _
          rw [old p (nw p (ne1 a3))]; exact ⟨a3, a4⟩
      · intro p hp hr
        by_cases cp : p = w
        · subst cp
          exact ⟨B.2.2, Nat.lt_succ_self _, up_s _ _ _⟩
        · have hr' : upd B.1 w (B.1 q + 1) p ≠ -1 := hr
          rw [old p cp] at hr'
          obtain ⟨i, i1, i2⟩ := H.2.2.1 p hp hr'
          exact ⟨i, Nat.lt_succ_of_lt i1, (up_n _ _ (by omega)).trans i2⟩
      · intro p hp hr
        by_cases cp : p = w
        · subst cp
          exact .st (H.2.2.2.1 q hv sv) hk hn c.2
        · have hr' : upd B.1 w (B.1 q + 1) p ≠ -1 := hr
          rw [old p cp] at hr'
          exact H.2.2.2.1 p hp hr'
      · intro p hp hr
        by_cases cp : p = w
        · subst cp
          obtain ⟨j, j1, j2⟩ := nb_sym hv hk hn
          refine Or.inr ?_
          show 0 < (upd B.1 p (B.1 q + 1) p).toInt ∧ ∃ k x, k < 4 ∧ nb p k = some x ∧ (upd B.1 p (B.1 q + 1) x).toInt = (upd B.1 p (B.1 q + 1) p).toInt - 1
          rw [up_s]
          refine ⟨by omega, j, q, j1, j2, ?_⟩
          rw [old q (fun e => hwv e.symm)]; omega
        · have hr' : upd B.1 w (B.1 q + 1) p ≠ -1 := hr
          rw [old p cp] at hr'
          have := H.2.2.2.2 p hp hr'
          show (upd B.1 w (B.1 q + 1) p).toInt = 0 ∧ p = g ∨ 0 < (upd B.1 w (B.1 q + 1) p).toInt ∧ ∃ k x, k < 4 ∧ nb p k = some x ∧ (upd B.1 w (B.1 q + 1) x).toInt = (upd B.1 w (B.1 q + 1) p).toInt - 1
          rw [old p cp]
          rcases this with h | ⟨h0, j, x, h1, h2, h3⟩
          · exact Or.inl h
          · refine Or.inr ⟨h0, j, x, h1, h2, ?_⟩
            rw [old x (fun e => by rw [e, c.1] at h3; have : (-1 : Int32).toInt = -1 := rfl; omega)]
            exact h3
      · intro i hi
        exact up_n _ _ (by omega)
      · exact Nat.le_succ _
      · refine dn _ (fun p hp => ?_) (fun p hp _ => ?_)
        · show upd B.1 w (B.1 q + 1) p ≠ -1
          rw [old p (nw p hp)]; exact hp
        · have : w = p := by rw [hn] at hp; exact Option.some.inj hp
          subst this
          show upd B.1 w (B.1 q + 1) w ≠ -1
          rw [up_s]; exact sn
    · rw [if_neg c]
      refine ⟨H, fun _ _ => rfl, Nat.le_refl _, dn B (fun _ h => h) (fun p hp op e => c ?_)⟩
      have : w = p := by rw [hn] at hp; exact Option.some.inj hp
      subst this
      exact ⟨e, op⟩
theorem BI_four {D : Nat → Int} {t : Int} {g h v : Nat} {B : Bs} (H : BI D t g B) (hh : h < B.2.2) (hv : v < 256) (ev : B.2.1 h = nI v) :
    BI D t g (four D t v B) ∧ (∀ i, i < B.2.2 → (four D t v B).2.1 i = B.2.1 i) ∧ B.2.2 ≤ (four D t v B).2.2 ∧ Dn D t (four D t v B) v 4 := by
  obtain ⟨a1, b1, c1, d1⟩ := BI_one (k := 0) H hh hv ev (by omega) (fun j w hj => by omega)
  obtain ⟨a2, b2, c2, d2⟩ := BI_one (k := 1) a1 (by omega) hv ((b1 h hh).trans ev) (by omega) d1
  obtain ⟨a3, b3, c3, d3⟩ := BI_one (k := 2) a2 (by omega) hv ((b2 h (by omega)).trans ((b1 h hh).trans ev)) (by omega) d2
  obtain ⟨a4, b4, c4, d4⟩ := BI_one (k := 3) a3 (by omega) hv ((b3 h (by omega)).trans ((b2 h (by omega)).trans ((b1 h hh).trans ev))) (by omega) d3
  exact ⟨a4, fun i hi => (b4 i (by omega)).trans ((b3 i (by omega)).trans ((b2 i (by omega)).trans (b1 i hi))), by unfold four; omega, d4⟩
theorem four_same {D : Nat → Int} {t : Int} {v q : Nat} {B : Bs} (h : B.1 q ≠ -1) : (four D t v B).1 q = B.1 q := by
  have e1 := one_same (D := D) (t := t) (v := v) (k := 0) h
  have e2 := one_same (D := D) (t := t) (v := v) (k := 1) (B := on1 D t v 0 B) (q := q) (by rw [e1]; exact h)
  have e3 := one_same (D := D) (t := t) (v := v) (k := 2) (B := on1 D t v 1 (on1 D t v 0 B)) (q := q) (by rw [e2, e1]; exact h)
  have e4 := one_same (D := D) (t := t) (v := v) (k := 3) (B := on1 D t v 2 (on1 D t v 1 (on1 D t v 0 B))) (q := q) (by rw [e3, e2, e1]; exact h)
  unfold four
  rw [e4, e3, e2, e1]
def Dns (D : Nat → Int) (t : Int) (h : Nat) (B : Bs) : Prop := ∀ i, i < h → ∀ v, v < 256 → B.2.1 i = nI v → Dn D t B v 4
theorem BI_c {D : Nat → Int} {t : Int} {g : Nat} {B : Bs} (H : BI D t g B) : B.2.2 ≤ 256 := by have := H.1; have := cnt_le B.1 256; omega
theorem bfl_ok {D : Nat → Int} {t : Int} {g : Nat} : ∀ (n h : Nat) (B : Bs), BI D t g B → Dns D t h B → h ≤ B.2.2 → 257 ≤ n + h → BI D t g (bfl D t n h B) ∧ Dns D t (bfl D t n h B).2.2 (bfl D t n h B) := by
  intro n
  induction n with
  | zero =>
    intro h B H _ hh hn
    have := BI_c H
    omega
  | succ n ih =>
    intro h B H hd hh hn
    rw [bfl]
    by_cases c : B.2.2 ≤ h
    · rw [if_pos c]
      have : h = B.2.2 := by omega
      subst this
      exact ⟨H, hd⟩
    · rw [if_neg c]
      obtain ⟨v, hv, ev, -, -⟩ := H.2.1 h (by omega)
      have e : (B.2.1 h).toInt.toNat = v := by rw [ev, nI_ti (by omega)]; omega
      rw [e]
      obtain ⟨a1, b1, c1, d1⟩ := BI_four H (by omega) hv ev
      refine ih (h + 1) _ a1 (fun i hi u hu eu => ?_) (by omega) (by omega)
      by_cases ci : i = h
      · subst ci
        have : nI u = nI v := by rw [← eu, b1 i (by omega), ev]
        rw [nI_eq (by omega) (by omega)] at this
        rw [this]; exact d1
      · have := hd i (by omega) u hu ((b1 i (by omega)).symm.trans eu)
        intro j w hj ej oj
        have q := this j w hj ej oj
        rw [four_same q]; exact q
theorem bf0_ok {D : Nat → Int} {t : Int} {g : Nat} (hg : g < 256) : BI D t g (bf0 D t g) ∧ (bf0 D t g).2.2 ≤ 1 := by
  have c0 : ∀ n, cnt (fun _ => (-1 : Int32)) n = 0 := by
    intro n; induction n with
    | zero => rfl
    | succ n ih => unfold cnt; rw [ih, if_pos rfl]
  unfold bf0
  by_cases c : okD D t g
  · rw [if_pos c]
    have z : (0 : Int32).toInt = 0 := rfl
    have key : ∀ q, upd (fun _ => (-1 : Int32)) g 0 q ≠ -1 → q = g := fun q hq => by
      by_cases e : q = g
      · exact e
      · rw [up_n _ _ e] at hq; exact absurd rfl hq
    refine ⟨⟨?_, ?_, ?_, ?_, ?_⟩, Nat.le_refl _⟩
    · show 1 = cnt (upd (fun _ => (-1 : Int32)) g 0) 256
      rw [cnt_up (fun _ => (-1 : Int32)) rfl (by decide), c0, if_pos hg]
    · intro i hi
      have : i = 0 := by have : i < 1 := hi; omega
      subst this
      refine ⟨g, hg, up_s (fun _ => 0) 0 (nI g), ?_⟩
      show 0 ≤ (upd (fun _ => (-1 : Int32)) g 0 g).toInt ∧ (upd (fun _ => (-1 : Int32)) g 0 g).toInt ≤ _
      rw [up_s, z]; omega
    · intro q hq hr
      have := key q hr
      subst this
      exact ⟨0, Nat.zero_lt_one, up_s (fun _ => 0) 0 (nI q)⟩
    · intro q hq hr
      have := key q hr
      subst this
      exact .rf c
    · intro q hq hr
      have := key q hr
      subst this
      refine Or.inl ⟨?_, rfl⟩
      show (upd (fun _ => (-1 : Int32)) q 0 q).toInt = 0
      rw [up_s]; rfl
  · rw [if_neg c]
    refine ⟨⟨(c0 256).symm, fun i hi => absurd hi (Nat.not_lt_zero _), fun q _ h => absurd rfl h, fun q _ h => absurd rfl h, fun q _ h => absurd rfl h⟩, Nat.zero_le _⟩
/-- what the flood finds -/
theorem bf_ok {D : Nat → Int} {t : Int} {g : Nat} (hg : g < 256) : (∀ q, q < 256 → (bf D t g q ≠ -1 ↔ Cn D t g q)) ∧ (∀ q, q < 256 → bf D t g q = -1 ∨ 0 ≤ (bf D t g q).toInt ∧ (bf D t g q).toInt < 256) ∧
    (∀ q, q < 256 → bf D t g q ≠ -1 → (bf D t g q).toInt = 0 ∧ q = g ∨ 0 < (bf D t g q).toInt ∧ ∃ k w, k < 4 ∧ nb q k = some w ∧ (bf D t g w).toInt = (bf D t g q).toInt - 1) := by
  obtain ⟨h0, h1⟩ := bf0_ok (D := D) (t := t) hg
  obtain ⟨H, hd⟩ := bfl_ok 257 0 (bf0 D t g) h0 (fun i hi => by omega) (by omega) (by omega)
  refine ⟨fun q hq => ⟨H.2.2.2.1 q hq, fun h => ?_⟩, fun q hq => ?_, H.2.2.2.2⟩
  · have : q < 256 ∧ bf D t g q ≠ -1 := by
      refine h (fun q => q < 256 ∧ bf D t g q ≠ -1) (fun o => ⟨hg, ?_⟩) (fun p w k ih hk e o => ?_)
      · -- g itself is reached
        have s0 : (bf0 D t g).1 g ≠ -1 := by
          unfold bf0; rw [if_pos o]
          show upd (fun _ => (-1 : Int32)) g 0 g ≠ -1
          rw [up_s]; decide
        have keep : ∀ (n h : Nat) (B : Bs), B.1 g ≠ -1 → (bfl D t n h B).1 g ≠ -1 := by
          intro n
          induction n with
          | zero => intro h B hb; exact hb
          | succ n ih =>
            intro h B hb
            rw [bfl]
            split
            · exact hb
            · exact ih _ _ (by rw [four_same hb]; exact hb)
        exact keep _ _ _ s0
      · obtain ⟨i, i1, i2⟩ := H.2.2.1 p ih.1 ih.2
        exact ⟨(nb_lt ih.1 e).1, hd i i1 p ih.1 i2 k w hk e o⟩
    exact this.2
  · by_cases c : bf D t g q = -1
    · exact Or.inl c
    · obtain ⟨i, i1, i2⟩ := H.2.2.1 q hq c
      obtain ⟨p, p1, p2, p3, p4⟩ := H.2.1 i i1
      have : nI q = nI p := i2.symm.trans p2
      rw [nI_eq (by omega) (by omega)] at this
      subst this
      have := BI_c H
      exact Or.inr ⟨p3, by have : (bf D t g q).toInt ≤ i := p4; omega⟩
