/-! PURE: the sheet -/
abbrev Sh : Type := Nat × (Nat → Nat) × (Nat → Int32)
def sh0 : Sh := (0, fun _ => 0, fun _ => 6)
def addS (n : Nat) (r : Int32) (h : Sh) : Sh := (h.1 + 1, fun i => if i = h.1 then n else h.2.1 i, upd h.2.2 n r)
def cn6 (rs : Nat → Int32) : Nat → Nat
  | 0 => 0
  | n + 1 => cn6 rs n + if rs n = 6 then 0 else 1
theorem cn6_le (rs : Nat → Int32) : ∀ n, cn6 rs n ≤ n := by
  intro n; induction n with
  | zero => exact Nat.le_refl _
  | succ n ih => unfold cn6; split <;> omega
theorem cn6_up (rs : Nat → Int32) {w : Nat} {s : Int32} (h : rs w = 6) (hs : s ≠ 6) : ∀ n, cn6 (upd rs w s) n = cn6 rs n + if w < n then 1 else 0 := by
  intro n; induction n with
  | zero => rfl
  | succ n ih =>
    unfold cn6
    rw [ih, up_e]
    by_cases c : n = w
    · subst c
      rw [if_pos rfl, if_neg hs, if_pos h, if_neg (by omega), if_pos (by omega)]
    · rw [if_neg c]
      by_cases c2 : w < n
      · rw [if_pos c2, if_pos (c := w < n + 1) (by omega)]; omega
      · rw [if_neg c2, if_neg (c := w < n + 1) (by omega)]; omega
/-- what always holds of a sheet -/
def SI (a : Nat → Int32) (d : Int) (q : Nat) (h : Sh) : Prop :=
  h.1 = cn6 h.2.2 (ns a) ∧ (∀ i, i < h.1 → h.2.1 i < ns a ∧ fnB a d q (h.2.1 i) = true ∧ h.2.2 (h.2.1 i) ≠ 6) ∧ ∀ n, n < ns a → h.2.2 n ≠ 6 → ∃ i, i < h.1 ∧ h.2.1 i = n
theorem SI_room {a : Nat → Int32} {d : Int} {q n : Nat} {h : Sh} (H : SI a d q h) (hn : n < ns a) (h6 : h.2.2 n = 6) : h.1 < ns a := by
  have c := cn6_up h.2.2 (s := 0) h6 (by decide) (ns a)
  have := cn6_le (upd h.2.2 n 0) (ns a)
  rw [if_pos hn] at c
  have := H.1
  omega
theorem SI_c {a : Nat → Int32} {d : Int} {q : Nat} {h : Sh} (H : SI a d q h) : h.1 ≤ ns a := by have := H.1; have := cn6_le h.2.2 (ns a); omega
theorem SI_add {a : Nat → Int32} {d : Int} {q n : Nat} {h : Sh} {r : Int32} (H : SI a d q h) (hn : n < ns a) (hf : fnB a d q n = true) (h6 : h.2.2 n = 6) (hr : r ≠ 6) : SI a d q (addS n r h) := by
  have c := cn6_up h.2.2 (s := r) h6 hr (ns a)
  rw [if_pos hn] at c
  have h1 := H.1
  refine ⟨?_, fun i hi => ?_, fun m hm hm6 => ?_⟩
  · show h.1 + 1 = cn6 (upd h.2.2 n r) (ns a)
    omega
  · show (if i = h.1 then n else h.2.1 i) < ns a ∧ fnB a d q (if i = h.1 then n else h.2.1 i) = true ∧ upd h.2.2 n r (if i = h.1 then n else h.2.1 i) ≠ 6
    by_cases e : i = h.1
    · rw [if_pos e, up_s]; exact ⟨hn, hf, hr⟩
    · have hi' : i < h.1 + 1 := hi
      obtain ⟨g1, g2, g3⟩ := H.2.1 i (by omega)
      rw [if_neg e, up_n _ _ (fun e2 => g3 (by rw [e2]; exact h6))]; exact ⟨g1, g2, g3⟩
  · have hm6' : upd h.2.2 n r m ≠ 6 := hm6
    by_cases e : m = n
    · exact ⟨h.1, Nat.lt_succ_self _, by show (if h.1 = h.1 then n else _) = m; rw [if_pos rfl, e]⟩
    · rw [up_n _ _ e] at hm6'
      obtain ⟨i, i1, i2⟩ := H.2.2 m hm hm6'
      exact ⟨i, Nat.lt_succ_of_lt i1, by show (if i = h.1 then n else h.2.1 i) = m; rw [if_neg (by omega)]; exact i2⟩
theorem SI_0 (a : Nat → Int32) (d : Int) (q : Nat) : SI a d q sh0 := by
  have z : ∀ n, cn6 (fun _ => (6 : Int32)) n = 0 := by
    intro n; induction n with
    | zero => rfl
    | succ n ih => unfold cn6; rw [ih, if_pos rfl]
  exact ⟨(z _).symm, fun i hi => absurd hi (Nat.not_lt_zero _), fun n _ h => absurd rfl h⟩
-- always
def alS (a : Nat → Int32) (d : Int) (n : Nat) : Nat → Bool
  | 0 => false
  | k + 1 => alS a d n k || (swB a d k && (decide (sa a k 4 < sa a n 4) && (hpB a k (sa a n 1) (sa a n 2) && decide (cor a n < cor a k))))
def alw (a : Nat → Int32) (d : Int) (n : Nat) : Bool := decide (sa a n 0 = 3) || (decide (sa a n 0 = 4) || alS a d n (ns a))
theorem alS_up {a : Nat → Int32} {d : Int} {n k : Nat} (h : alS a d n k = true) : ∀ {m : Nat}, k ≤ m → alS a d n m = true := by
  intro m
  induction m with
  | zero => intro hk; have : k = 0 := by omega
            subst this; exact h
  | succ m ih =>
    intro hk
    rcases (show k ≤ m ∨ k = m + 1 by omega) with e | e
    · unfold alS; rw [ih e]; rfl
    · rw [← e]; exact h
def alF (a : Nat → Int32) (d : Int) (q : Nat) : Nat → Sh
  | 0 => sh0
  | n + 1 => if fnB a d q n && alw a d n then addS n 0 (alF a d q n) else alF a d q n
theorem alF_ok {a : Nat → Int32} {d : Int} {q : Nat} : ∀ n, n ≤ ns a → SI a d q (alF a d q n) ∧ ∀ m, n ≤ m → (alF a d q n).2.2 m = 6 := by
  intro n
  induction n with
  | zero => intro _; exact ⟨SI_0 a d q, fun _ _ => rfl⟩
  | succ n ih =>
    intro hn
    obtain ⟨h1, h2⟩ := ih (by omega)
    unfold alF
    split
    · rename_i c
      rw [Bool.and_eq_true] at c
      exact ⟨SI_add h1 (by omega) c.1 (h2 n (Nat.le_refl _)) (by decide), fun m hm => by show upd _ n 0 m = 6; rw [up_n _ _ (by omega)]; exact h2 m (by omega)⟩
    · exact ⟨h1, fun m hm => h2 m (by omega)⟩
-- the shoalest
def sho (a : Nat → Int32) (d : Int) (q : Nat) : Nat → Option Nat
  | 0 => none
  | n + 1 => if fnB a d q n then (match sho a d q n with | none => some n | some m => if cor a m ≤ cor a n then some m else some n) else sho a d q n
theorem sho_ok {a : Nat → Int32} {d : Int} {q : Nat} : ∀ (n : Nat) {m : Nat}, sho a d q n = some m → m < n ∧ fnB a d q m = true := by
  intro n
  induction n with
  | zero => intro m h; cases h
  | succ n ih =>
    intro m h
    unfold sho at h
    split at h
    · rename_i c
      cases hs : sho a d q n with
      | none => rw [hs] at h; cases h; exact ⟨by omega, c⟩
      | some k =>
        have := ih hs
        rw [hs] at h
        dsimp only at h
        split at h
        · cases h; exact ⟨by omega, this.2⟩
        · cases h; exact ⟨by omega, c⟩
    · have := ih h
      exact ⟨by omega, this.2⟩
theorem sho_none {a : Nat → Int32} {d : Int} {q : Nat} : ∀ (n : Nat), sho a d q n = none → ∀ m, m < n → fnB a d q m = false := by
  intro n
  induction n with
  | zero => intro _ m hm; omega
  | succ n ih =>
    intro h m hm
    unfold sho at h
    split at h
    · cases hs : sho a d q n with
      | none => rw [hs] at h; cases h
      | some k =>
        rw [hs] at h
        dsimp only at h
        split at h <;> cases h
    · rename_i c
      rcases (show m < n ∨ m = n by omega) with e | e
      · exact ih h m e
      · rw [e]; exact eq_false_of_ne_true c
def sh2 (a : Nat → Int32) (d : Int) (q : Nat) : Sh := match sho a d q (ns a) with
  | none => alF a d q (ns a)
  | some m => if (alF a d q (ns a)).2.2 m = 6 then addS m 1 (alF a d q (ns a)) else alF a d q (ns a)
theorem sh2_ok {a : Nat → Int32} {d : Int} {q : Nat} : SI a d q (sh2 a d q) := by
  have h := (alF_ok (a := a) (d := d) (q := q) (ns a) (Nat.le_refl _)).1
  unfold sh2
  cases hs : sho a d q (ns a) with
  | none => exact h
  | some m =>
    dsimp only
    obtain ⟨m1, m2⟩ := sho_ok (ns a) hs
    by_cases c : (alF a d q (ns a)).2.2 m = 6
    · rw [if_pos c]; exact SI_add h m1 m2 c (by decide)
    · rw [if_neg c]; exact h
-- the farthest
def dst (a : Nat → Int32) (h : Sh) (n : Nat) : Nat → Int
  | 0 => 1000000
  | i + 1 => if frI a n (h.2.1 i) < dst a h n i then frI a n (h.2.1 i) else dst a h n i
def bst (a : Nat → Int32) (d : Int) (q : Nat) (h : Sh) : Nat → Option (Nat × Int)
  | 0 => none
  | n + 1 => if fnB a d q n = true ∧ h.2.2 n = 6 then (match bst a d q h n with | none => some (n, dst a h n h.1) | some p => if p.2 < dst a h n h.1 then some (n, dst a h n h.1) else some p) else bst a d q h n
theorem dst_b {a : Nat → Int32} (hW : WF a) {d : Int} {q : Nat} {h : Sh} (H : SI a d q h) {n : Nat} (hn : n < ns a) : ∀ i, i ≤ h.1 → 0 ≤ dst a h n i ∧ dst a h n i ≤ 1000000 := by
  intro i
  induction i with
  | zero => intro _; show (0 : Int) ≤ 1000000 ∧ (1000000 : Int) ≤ 1000000; omega
  | succ i ih =>
    intro hi
    have := ih (by omega)
    have fb := frI_b hW hn (H.2.1 i (by omega)).1
    unfold dst
    split <;> omega
theorem bst_ok {a : Nat → Int32} (hW : WF a) {d : Int} {q : Nat} {h : Sh} (H : SI a d q h) : ∀ (n : Nat), n ≤ ns a → ∀ {p : Nat × Int}, bst a d q h n = some p → p.1 < n ∧ fnB a d q p.1 = true ∧ h.2.2 p.1 = 6 ∧ 0 ≤ p.2 ∧ p.2 ≤ 1000000 := by
  intro n
  induction n with
  | zero => intro _ p h; cases h
  | succ n ih =>
    intro hn p hp
    have db := dst_b hW H (n := n) (by omega) h.1 (Nat.le_refl _)
    unfold bst at hp
    split at hp
    · rename_i c
      cases hs : bst a d q h n with
      | none => rw [hs] at hp; cases hp; exact ⟨by show n < n + 1; omega, c.1, c.2, db⟩
      | some k =>
        have := ih (by omega) hs
        rw [hs] at hp
        dsimp only at hp
        split at hp
        · cases hp; exact ⟨by show n < n + 1; omega, c.1, c.2, db⟩
        · cases hp; exact ⟨by omega, this.2⟩
    · have := ih (by omega) hp
      exact ⟨by omega, this.2⟩
def farS (a : Nat → Int32) (d : Int) (q : Nat) (h : Sh) : Sh := match bst a d q h (ns a) with
  | none => h
  | some p => addS p.1 2 h
def stpS (a : Nat → Int32) (d : Int) (q den : Nat) (h : Sh) : Sh := if den ≤ h.1 then h else farS a d q h
def itS (a : Nat → Int32) (d : Int) (q den : Nat) : Nat → Sh → Sh
  | 0, h => h
  | k + 1, h => itS a d q den k (stpS a d q den h)
theorem farS_ok {a : Nat → Int32} (hW : WF a) {d : Int} {q : Nat} {h : Sh} (H : SI a d q h) : SI a d q (farS a d q h) := by
  unfold farS
  cases hb : bst a d q h (ns a) with
  | none => exact H
  | some p =>
    obtain ⟨p1, p2, p3, -⟩ := bst_ok hW H (ns a) (Nat.le_refl _) hb
    exact SI_add H p1 p2 p3 (by decide)
theorem stpS_ok {a : Nat → Int32} (hW : WF a) {d : Int} {q den : Nat} {h : Sh} (H : SI a d q h) : SI a d q (stpS a d q den h) := by
  unfold stpS
  split
  · exact H
  · exact farS_ok hW H
theorem itS_fix {a : Nat → Int32} {d : Int} {q den : Nat} {h : Sh} (e : stpS a d q den h = h) : ∀ k, itS a d q den k h = h := by
  intro k
  induction k with
  | zero => rfl
  | succ k ih => show itS a d q den k (stpS a d q den h) = h; rw [e]; exact ih
def shE (a : Nat → Int32) (d : Int) (q den : Nat) : Sh := itS a d q den den (sh2 a d q)
-- the class's list of what is found
def fc (a : Nat → Int32) (d : Int) (q : Nat) : Nat → Nat
  | 0 => 0
  | n + 1 => fc a d q n + if fnB a d q n then 1 else 0
theorem fc_le (a : Nat → Int32) (d : Int) (q : Nat) : ∀ n, fc a d q n ≤ n := by
  intro n; induction n with
  | zero => exact Nat.le_refl _
  | succ n ih => unfold fc; split <;> omega
theorem fc_mono (a : Nat → Int32) (d : Int) (q : Nat) {m : Nat} : ∀ {n : Nat}, m ≤ n → fc a d q m ≤ fc a d q n := by
  intro n
  induction n with
  | zero => intro h; have : m = 0 := by omega
            subst this; exact Nat.le_refl _
  | succ n ih =>
    intro h
    rcases (show m ≤ n ∨ m = n + 1 by omega) with e | e
    · have := ih e
      show _ ≤ fc a d q n + _
      omega
    · rw [e]; exact Nat.le_refl _
theorem fc_s {a : Nat → Int32} {d : Int} {q n : Nat} (h : fnB a d q n = true) : fc a d q (n + 1) = fc a d q n + 1 := by
  show fc a d q n + _ = _
  rw [if_pos h]
theorem fc_n {a : Nat → Int32} {d : Int} {q n : Nat} (h : fnB a d q n = false) : fc a d q (n + 1) = fc a d q n := by
  show fc a d q n + _ = _
  rw [h, if_neg Bool.false_ne_true]; omega
theorem fc_lt {a : Nat → Int32} {d : Int} {q n N : Nat} (h : fnB a d q n = true) (hn : n < N) : fc a d q n < fc a d q N := by
  have := fc_s h
  have := fc_mono a d q (m := n + 1) (n := N) (by omega)
  omega
theorem fc_inj {a : Nat → Int32} {d : Int} {q n m : Nat} (h1 : fnB a d q n = true) (h2 : fnB a d q m = true) (e : fc a d q n = fc a d q m) : n = m := by
  rcases (show n = m ∨ n < m ∨ m < n by omega) with x | x | x
  · exact x
  · have := fc_lt h1 x; omega
  · have := fc_lt h2 x; omega
def FrS (S S' : St) : Prop := (∀ j, j ≠ 13 → j ≠ 14 → fI S' j = fI S j) ∧ ∀ j, j ≠ 40 → j ≠ 41 → j ≠ 42 → fA S' j = fA S j
theorem FrS.rf (S : St) : FrS S S := ⟨fun _ _ _ => rfl, fun _ _ _ _ => rfl⟩
theorem FrS.tr {S S' S'' : St} (h : FrS S S') (g : FrS S' S'') : FrS S S'' := ⟨fun j a b => (g.1 j a b).trans (h.1 j a b), fun j a b c => (g.2 j a b c).trans (h.2 j a b c)⟩
theorem FrS.px {S S' : St} (h : FrS S S') : PX S S' := ⟨fun k _ => h.1 k (by omega) (by omega), fun k _ _ _ => h.2 k (by omega) (by omega) (by omega)⟩
theorem Msd.s {a : Nat → Int32} {S S' : St} (h : Msd a S) (f : FrS S S') : Msd a S' := ⟨h.1.of (by omega) (fun k hk => f.1 k (by omega) (by omega)) (fun k _ hk => f.2 k (by omega) (by omega) (by omega)), fun i hi => by rw [f.2 16 (by omega) (by omega) (by omega)]; exact h.2 i hi⟩
theorem x_sqOf {S : St} {a : Nat → Int32} (hW : WF a) (hR : Rel 0 S a) {n : Nat} (hn : n < ns a) : mX6_squareOf S (nI n) = some (nI (sqr a n)) := by
  have hN := (ns_nI hW).2
  have r7 : fA S 7 n = a (2564 + 10 * n + 1) := hR.2.2.2.2.2 n 1 (by omega) hn (by omega)
  have r8 : fA S 8 n = a (2564 + 10 * n + 2) := hR.2.2.2.2.2 n 2 (by omega) hn (by omega)
  unfold mX6_squareOf
  rw [rd_nI (by omega) (by omega), ob, r8, rd_nI (by omega) (by omega), ob, r7, (sq_ok hW hn).1]
theorem x_all1 {a : Nat → Int32} {z q : Nat} {v : Int32} (hW : WF a) (hq : q < 256) : ∀ (r n m : Nat) (S : St), n + r = ns a → r < m → Msd a S → fI S 13 = nI (fc a v.toInt q n) → (∀ k, k < n → fnB a v.toInt q k = true → fA S 40 (fc a v.toInt q k) = nI k ∧ fA S 42 k = 6) →
    ∃ S', mX5_findAll_16 z v (nI q) m (nI n) S = some S' ∧ fI S' 13 = nI (fc a v.toInt q (ns a)) ∧ (∀ k, k < ns a → fnB a v.toInt q k = true → fA S' 40 (fc a v.toInt q k) = nI k ∧ fA S' 42 k = 6) ∧ FrS S S' := by
  obtain ⟨e1, hN⟩ := ns_nI hW
  intro r
  induction r with
  | zero =>
    intro n m S hn hm hM h13 hk
    obtain ⟨m, rfl⟩ : ∃ n', m = n' + 1 := ⟨m - 1, by omega⟩
    have : n = ns a := by omega
    subst this
    rw [mX5_findAll_16]; unfold mX5_findAll_16b
    rw [hM.1.2.1, e1, if_pos (by rw [leI (by omega) (by omega)]; omega)]
    exact ⟨S, rfl, h13, hk, FrS.rf S⟩
  | succ r ih =>
    intro n m S hn hm hM h13 hk
    obtain ⟨m, rfl⟩ : ∃ n', m = n' + 1 := ⟨m - 1, by omega⟩
    have s0 : (a (2564 + 10 * n + 0)).toInt = sa a n 0 := rfl
    have r6 : fA S 6 n = a (2564 + 10 * n + 0) := hM.1.2.2.2.2.2 n 0 (by omega) (by omega) (by omega)
    have skip : fnB a v.toInt q n = false → ∃ S', mX5_findAll_16 z v (nI q) m (nI (n + 1)) S = some S' ∧ fI S' 13 = nI (fc a v.toInt q (ns a)) ∧ (∀ k, k < ns a → fnB a v.toInt q k = true → fA S' 40 (fc a v.toInt q k) = nI k ∧ fA S' 42 k = 6) ∧ FrS S S' := fun hf =>
      ih (n + 1) m S (by omega) (by omega) hM (by rw [fc_n hf]; exact h13) (fun k hk1 hk2 => by
        rcases (show k < n ∨ k = n by omega) with e | e
        · exact hk k e hk2
        · rw [e, hf] at hk2; cases hk2)
    rw [mX5_findAll_16]; unfold mX5_findAll_16b
    rw [hM.1.2.1, e1, if_neg (by rw [leI (by omega) (by omega)]; omega), rd_nI (by omega) (by omega), ob, r6]
    by_cases c0 : a (2564 + 10 * n + 0) = 2
    · have c0' : sa a n 0 = 2 := by rw [← s0, c0]; rfl
      rw [if_pos c0]
      unfold mX5_findAll_51
      rw [if_pos rfl, nI_1]
      exact skip (by unfold fnB; rw [decide_eq_true c0']; rfl)
    · have c0' : ¬ sa a n 0 = 2 := fun h => c0 (by rw [i_eq, s0, h]; rfl)
      rw [if_neg c0, x_sqOf hW hM.1 (by omega), ob]
      have sb := (sq_ok hW (n := n) (by omega)).2
      by_cases c1 : sqr a n = q
      · rw [if_pos (by rw [c1])]
        unfold mX5_findAll_51
        rw [if_neg one_ne, x_counts hW hM (by omega), ob, if01, nI_1]
        have fe : fnB a v.toInt q n = (thB a n v.toInt && !wtB a n) := by unfold fnB; rw [decide_eq_false c0', decide_eq_true c1]; rfl
        cases hc : (thB a n v.toInt && !wtB a n) with
        | false => rw [if_neg Bool.false_ne_true]; exact skip (by rw [fe, hc])
        | true =>
          have fT : fnB a v.toInt q n = true := by rw [fe, hc]
          have fl := fc_lt fT (show n < ns a by omega)
          have fl2 := fc_le a v.toInt q (ns a)
          rw [if_pos rfl, h13, wr_nI (by omega) (by omega), ob, wr_nI (by omega) (by omega), ob]
          rw [fI_sA, h13, nI_1]
          have fr : FrS S (sA (sI (sA S 40 (upd (fA S 40) (fc a v.toInt q n) (nI n))) 13 (nI (fc a v.toInt q n + 1))) 42 (upd (fA (sI (sA S 40 (upd (fA S 40) (fc a v.toInt q n) (nI n))) 13 (nI (fc a v.toInt q n + 1))) 42) n 6)) :=
            ⟨fun j h1 _ => by rw [fI_sA, fI_sI, if_neg h1, fI_sA], fun j h1 h2 h3 => by rw [fA_ne h3, fA_sI, fA_ne h1]⟩
          obtain ⟨S', x1, x2, x3, x4⟩ := ih (n + 1) m _ (by omega) (by omega) (hM.s fr) (by rw [fI_sA, fI_sI, if_pos rfl, fc_s fT]) (fun k hk1 hk2 => by
            rw [fA_ne (by omega), fA_sI, fA_eq, fA_eq, fA_sI, fA_ne (by omega), up_e, up_e]
            by_cases e : k = n
            · rw [e, if_pos rfl, if_pos rfl]; exact ⟨rfl, rfl⟩
            · rw [if_neg (fun h => e (fc_inj hk2 fT h)), if_neg e]
              exact hk k (by omega) hk2)
          exact ⟨S', x1, x2, x3, fr.tr x4⟩
      · rw [if_neg (by rw [nI_eq (by omega) (by omega)]; exact c1)]
        unfold mX5_findAll_51
        rw [if_pos rfl, nI_1]
        exact skip (by unfold fnB; rw [decide_eq_false c1]; simp)
