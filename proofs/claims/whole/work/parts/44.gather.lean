/-! PURE: the soundings of a line that can cross, and the class's lists of them -/
def ofB (a : Nat → Int32) (l n : Nat) : Bool := decide (sa a n 5 = (l : Int)) && (decide (sa a n 0 < 2) && !wtB a n)
def cl (a : Nat → Int32) (l : Nat) : Nat → Nat
  | 0 => 0
  | n + 1 => cl a l n + if ofB a l n then 1 else 0
def tot (a : Nat → Int32) : Nat → Nat → Nat
  | 0, _ => 0
  | l + 1, n => tot a l n + cl a l n
theorem ofB_iff {a : Nat → Int32} {l n : Nat} : ofB a l n = true ↔ sa a n 5 = (l : Int) ∧ sa a n 0 < 2 ∧ wtB a n = false := by
  unfold ofB
  rw [Bool.and_eq_true, Bool.and_eq_true, decide_eq_true_iff, decide_eq_true_iff, Bool.not_eq_true']
theorem tot_s (a : Nat → Int32) (n : Nat) : ∀ l, tot a l (n + 1) = tot a l n + if (0 ≤ sa a n 5 ∧ sa a n 5 < (l : Int)) ∧ sa a n 0 < 2 ∧ wtB a n = false then 1 else 0 := by
  intro l
  induction l with
  | zero => rw [if_neg (by omega)]; rfl
  | succ l ih =>
    show tot a l (n + 1) + (cl a l n + if ofB a l n then 1 else 0) = tot a l n + cl a l n + _
    rw [ih]
    by_cases c : ofB a l n = true
    · rw [if_pos c]
      rw [ofB_iff] at c
      rw [if_neg (by omega), if_pos ⟨by omega, c.2⟩]; omega
    · rw [if_neg c]
      rw [ofB_iff] at c
      by_cases c2 : (0 ≤ sa a n 5 ∧ sa a n 5 < (l : Int)) ∧ sa a n 0 < 2 ∧ wtB a n = false
      · rw [if_pos c2, if_pos ⟨by omega, c2.2⟩]; omega
      · rw [if_neg c2, if_neg (fun h => by
          by_cases e : sa a n 5 = (l : Int)
          · exact c ⟨e, h.2⟩
          · exact c2 ⟨by omega, h.2⟩)]; omega
theorem tot_0 (a : Nat → Int32) : ∀ l, tot a l 0 = 0 := by
  intro l
  induction l with
  | zero => rfl
  | succ l ih => show tot a l 0 + 0 = 0; omega
theorem tot_le (a : Nat → Int32) (l : Nat) : ∀ n, tot a l n ≤ n := by
  intro n
  induction n with
  | zero => rw [tot_0]; omega
  | succ n ih => rw [tot_s]; split <;> omega
theorem cl_mono (a : Nat → Int32) (l : Nat) {m : Nat} : ∀ {n : Nat}, m ≤ n → cl a l m ≤ cl a l n := by
  intro n
  induction n with
  | zero => intro h; have : m = 0 := by omega
            subst this; exact Nat.le_refl _
  | succ n ih =>
    intro h
    rcases (show m ≤ n ∨ m = n + 1 by omega) with e | e
    · have := ih e
      show _ ≤ cl a l n + _
      omega
    · rw [e]; exact Nat.le_refl _
theorem cl_s {a : Nat → Int32} {l n : Nat} (h : ofB a l n = true) : cl a l (n + 1) = cl a l n + 1 := by
  show cl a l n + _ = _
  rw [if_pos h]
theorem cl_n {a : Nat → Int32} {l n : Nat} (h : ofB a l n = false) : cl a l (n + 1) = cl a l n := by
  show cl a l n + _ = _
  rw [h, if_neg Bool.false_ne_true]
  omega
theorem tot_mono (a : Nat → Int32) (n : Nat) {k : Nat} : ∀ {l : Nat}, k ≤ l → tot a k n ≤ tot a l n := by
  intro l
  induction l with
  | zero => intro h; have : k = 0 := by omega
            subst this; exact Nat.le_refl _
  | succ l ih =>
    intro h
    rcases (show k ≤ l ∨ k = l + 1 by omega) with e | e
    · have := ih e
      show _ ≤ tot a l n + _
      omega
    · rw [e]; exact Nat.le_refl _
def ps (a : Nat → Int32) (l n : Nat) : Nat := tot a l (ns a) + cl a l n
theorem ps_lt {a : Nat → Int32} {l n : Nat} (hn : n < ns a) (h : ofB a l n = true) : ps a l n < tot a (l + 1) (ns a) := by
  have e := cl_s h
  have m := cl_mono a l (m := n + 1) (n := ns a) (by omega)
  show tot a l (ns a) + cl a l n < tot a l (ns a) + cl a l (ns a)
  omega
theorem ps_inj {a : Nat → Int32} {l k n m : Nat} (hn : n < ns a) (hm : m < ns a) (h1 : ofB a l n = true) (h2 : ofB a k m = true) (e : ps a l n = ps a k m) : l = k ∧ n = m := by
  have p1 := ps_lt hn h1
  have p2 := ps_lt hm h2
  have lk : l = k := by
    rcases (show l = k ∨ l + 1 ≤ k ∨ k + 1 ≤ l by omega) with x | x | x
    · exact x
    · have := tot_mono a (ns a) x
      unfold ps at e p1 p2; omega
    · have := tot_mono a (ns a) x
      unfold ps at e p1 p2; omega
  subst lk
  refine ⟨rfl, ?_⟩
  rcases (show n = m ∨ n + 1 ≤ m ∨ m + 1 ≤ n by omega) with x | x | x
  · exact x
  · have := cl_mono a l x
    have := cl_s h1
    unfold ps at e; omega
  · have := cl_mono a l x
    have := cl_s h2
    unfold ps at e; omega
/-- the lists so far: v places filled -/
def Gat (a : Nat → Int32) (v : Nat) (S : St) : Prop := ∀ l n, n < ns a → ofB a l n = true → ps a l n < v → fA S 37 (ps a l n) = nI n
theorem x_can {S : St} {a : Nat → Int32} (hW : WF a) (hM : Msd a S) {n l : Nat} (hn : n < ns a) (h5 : sa a n 5 = (l : Int)) : mX3_canCross S (nI n) = some (if ofB a l n then 1 else 0) := by
  have hN := (ns_nI hW).2
  have s0 : (a (2564 + 10 * n + 0)).toInt = sa a n 0 := rfl
  have r6 : fA S 6 n = a (2564 + 10 * n + 0) := hM.1.2.2.2.2.2 n 0 (by omega) hn (by omega)
  obtain ⟨g1, -, -, -, -, -, g7, -⟩ := hW.2.2.2.2.2 n (by omega) hn
  have u := unkW hW hn (hM.2 n hn)
  have k3 : sa a n 0 < 3 := by
    rcases Int.lt_or_le (sa a n 0) 3 with h | h
    · exact h
    · have := g7 h; omega
  unfold mX3_canCross
  rw [rd_nI (by omega) (by omega), ob, r6]
  by_cases c0 : a (2564 + 10 * n + 0) = 2
  · have c0' : sa a n 0 = 2 := by rw [← s0, c0]; rfl
    rw [if_pos c0, if_neg (fun h => by rw [ofB_iff] at h; omega)]
  · have c0' : ¬ sa a n 0 = 2 := fun h => c0 (by rw [i_eq, s0, h]; rfl)
    rw [if_neg c0, rd_nI (by omega) (by omega), ob]
    by_cases c1 : fA S 16 n = (-30000)
    · rw [if_pos c1, if_neg (fun h => by rw [ofB_iff, u.mp c1] at h; cases h.2.2)]
    · rw [if_neg c1, if_pos]
      rw [ofB_iff]
      refine ⟨h5, by omega, ?_⟩
      cases h : wtB a n with
      | false => rfl
      | true => exact absurd (u.mpr h) c1
theorem x_gat1 {a : Nat → Int32} {z l : Nat} (hl : l < 20) (hW : WF a) {rc : Int32 → Int32 → St → Option St} : ∀ (r n m : Nat) (S : St), n + r = ns a → r < m → Msd a S → Gat a (ps a l n) S →
    ∃ g : Nat → Int32, mX3_gather_26 z rc (nI l) m (nI (ps a l n)) (nI n) S = rc (nI (tot a (l + 1) (ns a))) (nI l + 1) (sA S 37 g) ∧ Gat a (tot a (l + 1) (ns a)) (sA S 37 g) := by
  obtain ⟨e1, hN⟩ := ns_nI hW
  intro r
  induction r with
  | zero =>
    intro n m S hn hm hM hG
    obtain ⟨m, rfl⟩ : ∃ n', m = n' + 1 := ⟨m - 1, by omega⟩
    have : n = ns a := by omega
    subst this
    rw [mX3_gather_26]; unfold mX3_gather_26b
    rw [hM.1.2.1, e1, if_pos (by rw [leI (by omega) (by omega)]; omega)]
    refine ⟨fA S 37, by rw [sA_self]; rfl, ?_⟩
    rw [sA_self]; exact hG
  | succ r ih =>
    intro n m S hn hm hM hG
    obtain ⟨m, rfl⟩ : ∃ n', m = n' + 1 := ⟨m - 1, by omega⟩
    have r11 : fA S 11 n = a (2564 + 10 * n + 5) := hM.1.2.2.2.2.2 n 5 (by omega) (by omega) (by omega)
    have s5 : (a (2564 + 10 * n + 5)).toInt = sa a n 5 := rfl
    have lb : tot a l (ns a) ≤ 200 := by have := tot_le a l (ns a); omega
    have l5 : a (2564 + 10 * n + 5) = nI l ↔ sa a n 5 = (l : Int) := by rw [i_eq, s5, nI_ti (by omega)]
    rw [mX3_gather_26]; unfold mX3_gather_26b
    rw [hM.1.2.1, e1, if_neg (by rw [leI (by omega) (by omega)]; omega), rd_nI (by omega) (by omega), ob, r11, nI_1]
    have skip : ofB a l n = false → ∃ g : Nat → Int32, mX3_gather_26 z rc (nI l) m (nI (ps a l n)) (nI (n + 1)) S = rc (nI (tot a (l + 1) (ns a))) (nI l + 1) (sA S 37 g) ∧ Gat a (tot a (l + 1) (ns a)) (sA S 37 g) := fun h => by
      have e : ps a l (n + 1) = ps a l n := by unfold ps; rw [cl_n h]
      have := ih (n + 1) m S (by omega) (by omega) hM (by rw [e]; exact hG)
      rw [e] at this; exact this
    by_cases c5 : a (2564 + 10 * n + 5) = nI l
    · rw [if_pos c5]
      rw [x_can hW hM (by omega) (l5.mp c5), ob, if01]
      cases ho : ofB a l n with
      | false => rw [if_neg Bool.false_ne_true]; exact skip ho
      | true =>
        rw [if_pos rfl]
        have pl := ps_lt (by omega) ho
        have tl := tot_le a (l + 1) (ns a)
        rw [wr_nI (by omega) (by omega), ob, nI_1]
        have e : ps a l (n + 1) = ps a l n + 1 := by unfold ps; rw [cl_s ho]; omega
        obtain ⟨g, x1, x2⟩ := ih (n + 1) m (sA S 37 (upd (fA S 37) (ps a l n) (nI n))) (by omega) (by omega) (hM.sA (by omega) _) (by
          intro k p hp hk hlt
          rw [fA_eq, up_e]
          by_cases eq : ps a k p = ps a l n
          · rw [if_pos eq, (ps_inj hp (by omega) hk ho eq).2]
          · rw [if_neg eq]; exact hG k p hp hk (by omega))
        rw [e] at x1
        rw [sA_sA] at x1 x2
        exact ⟨g, x1, x2⟩
    · rw [if_neg c5]
      refine skip ?_
      cases h : ofB a l n with
      | false => rfl
      | true =>
        rw [ofB_iff] at h
        exact absurd (l5.mpr h.1) c5
theorem x_gat2 {a : Nat → Int32} {z : Nat} (hz : 10000 ≤ z) (hW : WF a) : ∀ (r l m : Nat) (S : St), l + r = 20 → r < m → Msd a S → Gat a (tot a l (ns a)) S → (∀ k, k < l → fA S 38 k = nI (tot a k (ns a))) →
    ∃ S', mX3_gather_11 z m (nI (tot a l (ns a))) (nI l) S = some S' ∧ Gat a (tot a 20 (ns a)) S' ∧ (∀ k, k ≤ 20 → fA S' 38 k = nI (tot a k (ns a))) ∧ (∀ j, fI S' j = fI S j) ∧ ∀ j, j ≠ 37 → j ≠ 38 → fA S' j = fA S j := by
  obtain ⟨e1, hN⟩ := ns_nI hW
  intro r
  induction r with
  | zero =>
    intro l m S hl hm hM hG h38
    obtain ⟨m, rfl⟩ : ∃ n', m = n' + 1 := ⟨m - 1, by omega⟩
    have : l = 20 := by omega
    subst this
    rw [mX3_gather_11]; unfold mX3_gather_11b mX3_gather_86
    rw [if_pos (by decide), show (20 : Int32) = nI 20 from rfl, wr_nI (by omega) (by omega), ob]
    refine ⟨_, rfl, fun k n hn h1 h2 => by rw [fA_ne (by omega)]; exact hG k n hn h1 h2, fun k hk => ?_, fun _ => rfl, fun j _ h => fA_ne h⟩
    rw [fA_eq, up_e]
    by_cases e : k = 20
    · rw [if_pos e, e]
    · rw [if_neg e]; exact h38 k (by omega)
  | succ r ih =>
    intro l m S hl hm hM hG h38
    obtain ⟨m, rfl⟩ : ∃ n', m = n' + 1 := ⟨m - 1, by omega⟩
    rw [mX3_gather_11]; unfold mX3_gather_11b
    rw [show (20 : Int32) = nI 20 from rfl, if_neg (by rw [leI (by omega) (by omega)]; omega), wr_nI (by omega) (by omega), ob]
    have p0 : ps a l 0 = tot a l (ns a) := by unfold ps; show _ + 0 = _; omega
    obtain ⟨g, x1, x2⟩ := x_gat1 (z := z) (l := l) (by omega) hW (rc := mX3_gather_11 z m) (ns a) 0 z (sA S 38 (upd (fA S 38) l (nI (tot a l (ns a))))) (by omega) (by omega) (hM.sA (by omega) _) (by rw [p0]; exact fun k n hn h1 h2 => by rw [fA_ne (by omega)]; exact hG k n hn h1 h2)
    rw [p0] at x1
    rw [show (0 : Int32) = nI 0 from rfl, x1, nI_1]
    obtain ⟨S', y1, y2, y3, y4, y5⟩ := ih (l + 1) m _ (by omega) (by omega) ((hM.sA (j := 38) (by omega) _).sA (j := 37) (by omega) g) x2 (fun k hk => by
      rw [fA_ne (by omega), fA_eq, up_e]
      by_cases e : k = l
      · rw [if_pos e, e]
      · rw [if_neg e]; exact h38 k (by omega))
    exact ⟨S', y1, y2, y3, y4, fun j h1 h2 => by rw [y5 j h1 h2, fA_ne h1, fA_ne h2]⟩
/-- gathered -/
def Ghd (a : Nat → Int32) (S : St) : Prop := Msd a S ∧ (∀ l n, l < 20 → n < ns a → ofB a l n = true → fA S 37 (ps a l n) = nI n) ∧ ∀ k, k ≤ 20 → fA S 38 k = nI (tot a k (ns a))
theorem x_gather {S : St} {a : Nat → Int32} {z : Nat} (hz : 10000 ≤ z) (hW : WF a) (hR : Rel 0 S a) : ∃ S', mX3_gather z S = some S' ∧ Ghd a S' ∧ PX S S' := by
  obtain ⟨e1, hN⟩ := ns_nI hW
  have g0 : Gat a (tot a 0 (ns a)) = Gat a 0 := rfl
  unfold mX3_gather mX7_measure
  obtain ⟨S1, f1, f2, f3, f4, -⟩ := x_measL hz hW (ns a) 0 z S (by omega) (by omega) hR
  have hM : Msd a S1 := ⟨hR.of (by omega) (fun j _ => f2 j) (fun j _ h => f3 j (by omega)), fun i hi => f4 i (by omega) hi⟩
  rw [show (0 : Int32) = nI 0 from rfl, f1, ob]
  obtain ⟨S', y1, y2, y3, y4, y5⟩ := x_gat2 hz hW 20 0 z S1 (by omega) (by omega) hM (fun k n hn h1 h2 => absurd h2 (Nat.not_lt_zero _)) (fun k hk => by omega)
  refine ⟨S', y1, ⟨⟨hM.1.of (by omega) (fun j _ => y4 j) (fun j _ h => y5 j (by omega) (by omega)), fun i hi => by rw [y5 16 (by omega) (by omega)]; exact hM.2 i hi⟩, fun l n hl hn ho => y2 l n hn ho ?_, y3⟩, fun k _ => (y4 k).trans (f2 k), fun k h _ hk => (y5 k (by omega) (by omega)).trans (f3 k h)⟩
  have := ps_lt hn ho
  have := tot_mono a (ns a) (k := l + 1) (l := 20) (by omega)
  omega
