/-! PURE: the sheet, the class's side -/
def XS (a : Nat → Int32) (d : Int) (q : Nat) (S : St) (h : Sh) : Prop := Msd a S ∧ fI S 13 = nI (fc a d q (ns a)) ∧ (∀ k, k < ns a → fnB a d q k = true → fA S 40 (fc a d q k) = nI k) ∧ fI S 14 = nI h.1 ∧ (∀ i, i < h.1 → fA S 41 i = nI (h.2.1 i)) ∧ ∀ k, k < ns a → fnB a d q k = true → fA S 42 k = h.2.2 k
theorem x_addSh {a : Nat → Int32} {d : Int} {q n : Nat} {S : St} {h : Sh} {r : Int32} (hW : WF a) (H : SI a d q h) (hX : XS a d q S h) (hn : n < ns a) (hf : fnB a d q n = true) (h6 : h.2.2 n = 6) : ∃ S', mX5_add (nI n) r S = some S' ∧ XS a d q S' (addS n r h) ∧ FrS S S' := by
  obtain ⟨e1, hN⟩ := ns_nI hW
  have rm := SI_room H hn h6
  obtain ⟨hM, x13, x40, x14, x41, x42⟩ := hX
  unfold mX5_add
  rw [x14, if_pos (by rw [show (200 : Int32) = nI 200 from rfl, ltI (by omega) (by omega)]; omega), wr_nI (by omega) (by omega), ob, wr_nI (by omega) (by omega), ob]
  have fr : FrS S (sA (sI (sA S 41 (upd (fA S 41) h.1 (nI n))) 14 (fI (sA S 41 (upd (fA S 41) h.1 (nI n))) 14 + 1)) 42 (upd (fA (sI (sA S 41 (upd (fA S 41) h.1 (nI n))) 14 (fI (sA S 41 (upd (fA S 41) h.1 (nI n))) 14 + 1)) 42) n r)) :=
    ⟨fun j _ h2 => by rw [fI_sA, fI_sI, if_neg h2, fI_sA], fun j _ h2 h3 => by rw [fA_ne h3, fA_sI, fA_ne h2]⟩
  refine ⟨_, rfl, ⟨hM.s fr, ?_, fun k hk hk2 => ?_, ?_, fun i hi => ?_, fun k hk hk2 => ?_⟩, fr⟩
  · rw [fI_sA, fI_sI, if_neg (by omega), fI_sA]; exact x13
  · rw [fA_ne (by omega), fA_sI, fA_ne (by omega)]; exact x40 k hk hk2
  · rw [fI_sA, fI_sI, if_pos rfl, fI_sA, x14, nI_1]; rfl
  · rw [fA_ne (by omega), fA_sI, fA_eq]
    show upd (fA S 41) h.1 (nI n) i = nI (if i = h.1 then n else h.2.1 i)
    rw [up_e]
    by_cases e : i = h.1
    · rw [if_pos e, if_pos e]
    · rw [if_neg e, if_neg e]
      have hi' : i < h.1 + 1 := hi
      exact x41 i (by omega)
  · rw [fA_eq, fA_sI, fA_ne (by omega)]
    show upd (fA S 42) n r k = upd h.2.2 n r k
    rw [up_e, up_e]
    by_cases e : k = n
    · rw [if_pos e, if_pos e]
    · rw [if_neg e, if_neg e]; exact x42 k hk hk2
theorem x_spanHas {S : St} {a : Nat → Int32} (hW : WF a) (hR : Rel 0 S a) {n m : Nat} (hn : n < ns a) (hm : m < ns a) : mX6_spanHas S (nI m) (nI n) = some (if hpB a m (sa a n 1) (sa a n 2) then 1 else 0) := by
  have hN := (ns_nI hW).2
  have r7 : ∀ {n}, n < ns a → fA S 7 n = a (2564 + 10 * n + 1) := fun {n} hn => hR.2.2.2.2.2 n 1 (by omega) hn (by omega)
  have r8 : ∀ {n}, n < ns a → fA S 8 n = a (2564 + 10 * n + 2) := fun {n} hn => hR.2.2.2.2.2 n 2 (by omega) hn (by omega)
  have r14 : fA S 14 m = a (2564 + 10 * m + 8) := hR.2.2.2.2.2 m 8 (by omega) hm (by omega)
  have r15 : fA S 15 m = a (2564 + 10 * m + 9) := hR.2.2.2.2.2 m 9 (by omega) hm (by omega)
  obtain ⟨-, g2, g3, -⟩ := hW.2.2.2.2.2 n (by omega) hn
  obtain ⟨-, k2, k3, -, -, -, -, -, k9, k10⟩ := hW.2.2.2.2.2 m (by omega) hm
  have s1 : (a (2564 + 10 * n + 1)).toInt = sa a n 1 := rfl
  have s2 : (a (2564 + 10 * n + 2)).toInt = sa a n 2 := rfl
  have t1 : (a (2564 + 10 * m + 1)).toInt = sa a m 1 := rfl
  have t2 : (a (2564 + 10 * m + 2)).toInt = sa a m 2 := rfl
  have t8 : (a (2564 + 10 * m + 8)).toInt = sa a m 8 := rfl
  have t9 : (a (2564 + 10 * m + 9)).toInt = sa a m 9 := rfl
  have d1 : (a (2564 + 10 * n + 1) - a (2564 + 10 * m + 1)).toInt = sa a n 1 - sa a m 1 := by rw [ti_sub (by omega) (by omega), s1, t1]
  have d2 : (a (2564 + 10 * n + 2) - a (2564 + 10 * m + 2)).toInt = sa a n 2 - sa a m 2 := by rw [ti_sub (by omega) (by omega), s2, t2]
  unfold mX6_spanHas
  rw [rd_nI (by omega) (by omega), ob, rd_nI (by omega) (by omega), ob, rd_nI (by omega) (by omega), ob, rd_nI (by omega) (by omega), ob, r7 hn, r7 hm, r8 hn, r8 hm]
  by_cases c1 : a (2564 + 10 * n + 1) - a (2564 + 10 * m + 1) < 0
  · rw [if_pos c1]; rw [lt0, d1] at c1
    rw [if_neg (fun h => by rw [hp_iff] at h; omega)]
  rw [if_neg c1, rd_nI (by omega) (by omega), ob, r14]; rw [lt0, d1] at c1
  by_cases c2 : a (2564 + 10 * m + 8) ≤ a (2564 + 10 * n + 1) - a (2564 + 10 * m + 1)
  · rw [if_pos c2]; rw [i_le, d1, t8] at c2
    rw [if_neg (fun h => by rw [hp_iff] at h; omega)]
  rw [if_neg c2]; rw [i_le, d1, t8] at c2
  by_cases c3 : a (2564 + 10 * n + 2) - a (2564 + 10 * m + 2) < 0
  · rw [if_pos c3]; rw [lt0, d2] at c3
    rw [if_neg (fun h => by rw [hp_iff] at h; omega)]
  rw [if_neg c3, rd_nI (by omega) (by omega), ob, r15]; rw [lt0, d2] at c3
  by_cases c4 : a (2564 + 10 * m + 9) ≤ a (2564 + 10 * n + 2) - a (2564 + 10 * m + 2)
  · rw [if_pos c4]; rw [i_le, d2, t9] at c4
    rw [if_neg (fun h => by rw [hp_iff] at h; omega)]
  rw [if_neg c4]; rw [i_le, d2, t9] at c4
  rw [if_pos (by rw [hp_iff]; omega)]
theorem alS_s {a : Nat → Int32} {d : Int} {n k : Nat} (h : alS a d n k = false) : alS a d n (k + 1) = (swB a d k && (decide (sa a k 4 < sa a n 4) && (hpB a k (sa a n 1) (sa a n 2) && decide (cor a n < cor a k)))) := by
  conv => lhs; unfold alS
  rw [h, Bool.false_or]
theorem x_stands1 {S : St} {a : Nat → Int32} {z n : Nat} {v : Int32} (hW : WF a) (hM : Msd a S) (hn : n < ns a) : ∀ (r k m : Nat), k + r = ns a → r < m → alS a v.toInt n k = false → mX5_standsInSwept_11 z S (nI n) v m (nI k) = some (if alS a v.toInt n (ns a) then 1 else 0) := by
  obtain ⟨e1, hN⟩ := ns_nI hW
  intro r
  induction r with
  | zero =>
    intro k m hk hm hf
    obtain ⟨m, rfl⟩ : ∃ n', m = n' + 1 := ⟨m - 1, by omega⟩
    have : k = ns a := by omega
    subst this
    rw [mX5_standsInSwept_11]; unfold mX5_standsInSwept_11b
    rw [hM.1.2.1, e1, if_pos (by rw [leI (by omega) (by omega)]; omega), hf]; rfl
  | succ r ih =>
    intro k m hk hm hf
    obtain ⟨m, rfl⟩ : ∃ n', m = n' + 1 := ⟨m - 1, by omega⟩
    have s0 : (a (2564 + 10 * k + 0)).toInt = sa a k 0 := rfl
    have r6 : fA S 6 k = a (2564 + 10 * k + 0) := hM.1.2.2.2.2.2 k 0 (by omega) (by omega) (by omega)
    have r10 : ∀ {n}, n < ns a → fA S 10 n = a (2564 + 10 * n + 4) := fun {n} hn => hM.1.2.2.2.2.2 n 4 (by omega) hn (by omega)
    have s4 : (a (2564 + 10 * k + 4)).toInt = sa a k 4 := rfl
    have t4 : (a (2564 + 10 * n + 4)).toInt = sa a n 4 := rfl
    have nx := alS_s hf
    have go : alS a v.toInt n (k + 1) = false → mX5_standsInSwept_11 z S (nI n) v m (nI (k + 1)) = some (if alS a v.toInt n (ns a) then 1 else 0) := fun h => ih (k + 1) m (by omega) (by omega) h
    rw [mX5_standsInSwept_11]; unfold mX5_standsInSwept_11b
    rw [hM.1.2.1, e1, if_neg (by rw [leI (by omega) (by omega)]; omega), rd_nI (by omega) (by omega), ob, r6]
    by_cases c0 : a (2564 + 10 * k + 0) = 2
    · have c0' : sa a k 0 = 2 := by rw [← s0, c0]; rfl
      have swe : swB a v.toInt k = (thB a k v.toInt && !wtB a k) := by unfold swB; rw [decide_eq_true c0']; rfl
      rw [if_pos c0, rd_nI (by omega) (by omega), ob, rd_nI (by omega) (by omega), ob, r10 hn, r10 (n := k) (by omega)]
      by_cases c4 : a (2564 + 10 * n + 4) ≤ a (2564 + 10 * k + 4)
      · rw [if_pos c4]; rw [i_le, s4, t4] at c4
        unfold mX5_standsInSwept_52
        rw [if_pos rfl, nI_1]
        exact go (by rw [nx, decide_eq_false (show ¬ sa a k 4 < sa a n 4 by omega)]; simp)
      · rw [if_neg c4]; rw [i_le, s4, t4] at c4
        rw [decide_eq_true (show sa a k 4 < sa a n 4 by omega), Bool.true_and, swe] at nx
        unfold mX5_standsInSwept_52
        rw [if_neg one_ne, x_counts hW hM (by omega), ob, if01, nI_1]
        cases hc : (thB a k v.toInt && !wtB a k) with
        | false => rw [if_neg Bool.false_ne_true]; exact go (by rw [nx, hc]; rfl)
        | true =>
          rw [hc, Bool.true_and] at nx
          rw [if_pos rfl, x_spanHas hW hM.1 hn (by omega), ob, if01]
          cases hp : hpB a k (sa a n 1) (sa a n 2) with
          | false => rw [if_neg Bool.false_ne_true]; exact go (by rw [nx, hp]; rfl)
          | true =>
            rw [hp, Bool.true_and] at nx
            rw [if_pos rfl, rd_nI (by omega) (by omega), ob, rd_nI (by omega) (by omega), ob]
            by_cases cc : fA S 16 k ≤ fA S 16 n
            · rw [if_pos cc]; rw [i_le, hM.2 k (by omega), hM.2 n hn] at cc
              exact go (by rw [nx, decide_eq_false (by omega)])
            · rw [if_neg cc]; rw [i_le, hM.2 k (by omega), hM.2 n hn] at cc
              rw [decide_eq_true (show cor a n < cor a k by omega)] at nx
              rw [alS_up nx (show k + 1 ≤ ns a by omega)]; rfl
    · have c0' : ¬ sa a k 0 = 2 := fun h => c0 (by rw [i_eq, s0, h]; rfl)
      rw [if_neg c0]
      unfold mX5_standsInSwept_52
      rw [if_pos rfl, nI_1]
      exact go (by rw [nx]; unfold swB; rw [decide_eq_false c0']; rfl)
theorem x_alw1 {a : Nat → Int32} {z q : Nat} {v : Int32} (hz : 10000 ≤ z) (hW : WF a) : ∀ (r n m : Nat) (S : St), n + r = ns a → r < m → XS a v.toInt q S (alF a v.toInt q n) →
    ∃ S', mX5_showAlways_2 z v m (nI (fc a v.toInt q n)) S = some S' ∧ XS a v.toInt q S' (alF a v.toInt q (ns a)) ∧ FrS S S' := by
  obtain ⟨e1, hN⟩ := ns_nI hW
  have fN := fc_le a v.toInt q (ns a)
  intro r
  induction r with
  | zero =>
    intro n m S hn hm hX
    obtain ⟨m, rfl⟩ : ∃ n', m = n' + 1 := ⟨m - 1, by omega⟩
    have : n = ns a := by omega
    subst this
    rw [mX5_showAlways_2]; unfold mX5_showAlways_2b
    rw [hX.2.1, if_pos (by rw [leI (by omega) (by omega)]; omega)]
    exact ⟨S, rfl, hX, FrS.rf S⟩
  | succ r ih =>
    intro n m S hn hm hX
    cases hf : fnB a v.toInt q n with
    | false =>
      have := ih (n + 1) m S (by omega) (by omega) (by unfold alF; rw [hf]; exact hX)
      rw [fc_n hf] at this; exact this
    | true =>
      obtain ⟨m, rfl⟩ : ∃ n', m = n' + 1 := ⟨m - 1, by omega⟩
      have fl := fc_lt hf (show n < ns a by omega)
      have s0 : (a (2564 + 10 * n + 0)).toInt = sa a n 0 := rfl
      have r6 : fA S 6 n = a (2564 + 10 * n + 0) := hX.1.1.2.2.2.2.2 n 0 (by omega) (by omega) (by omega)
      obtain ⟨HI, h6⟩ := alF_ok (a := a) (d := v.toInt) (q := q) n (by omega)
      rw [mX5_showAlways_2]; unfold mX5_showAlways_2b
      rw [hX.2.1, if_neg (by rw [leI (by omega) (by omega)]; omega), rd_nI (by omega) (by omega), ob, hX.2.2.1 n (by omega) hf, rd_nI (by omega) (by omega), ob, r6]
      have add : alw a v.toInt n = true → ∃ S', mX5_showAlways_52 z (mX5_showAlways_2 z v m) v (nI (fc a v.toInt q n)) (nI n) S = some S' ∧ XS a v.toInt q S' (alF a v.toInt q (ns a)) ∧ FrS S S' := fun ha => by
        unfold mX5_showAlways_52
        obtain ⟨S1, x1, x2, x3⟩ := x_addSh (r := 0) hW HI hX (by omega) hf (h6 n (Nat.le_refl _))
        rw [x1, ob, nI_1, ← fc_s hf]
        obtain ⟨S', y1, y2, y3⟩ := ih (n + 1) m S1 (by omega) (by omega) (by unfold alF; rw [hf, ha]; exact x2)
        exact ⟨S', y1, y2, x3.tr y3⟩
      by_cases c3 : a (2564 + 10 * n + 0) = 3
      · have : sa a n 0 = 3 := by rw [← s0, c3]; rfl
        rw [if_pos c3]
        exact add (by unfold alw; rw [decide_eq_true this]; rfl)
      · have n3 : ¬ sa a n 0 = 3 := fun h => c3 (by rw [i_eq, s0, h]; rfl)
        rw [if_neg c3]
        by_cases c4 : a (2564 + 10 * n + 0) = 4
        · have : sa a n 0 = 4 := by rw [← s0, c4]; rfl
          rw [if_pos c4]
          exact add (by unfold alw; rw [decide_eq_true this]; simp)
        · have n4 : ¬ sa a n 0 = 4 := fun h => c4 (by rw [i_eq, s0, h]; rfl)
          rw [if_neg c4]
          unfold mX5_standsInSwept
          have ae : alw a v.toInt n = alS a v.toInt n (ns a) := by unfold alw; rw [decide_eq_false n3, decide_eq_false n4]; rfl
          rw [show (0 : Int32) = nI 0 from rfl, x_stands1 hW hX.1 (by omega) (ns a) 0 z (by omega) (by omega) rfl, ob]
          show ∃ S', (if (if alS a v.toInt n (ns a) = true then (1 : Int32) else 0) = 0 then mX5_showAlways_2 z v m (nI (fc a v.toInt q n) + 1) S else _) = some S' ∧ _
          rw [if01, nI_1]
          cases hs : alS a v.toInt n (ns a) with
          | false =>
            rw [if_neg Bool.false_ne_true, ← fc_s hf]
            exact ih (n + 1) m S (by omega) (by omega) (by unfold alF; rw [hf, ae, hs]; exact hX)
          | true => rw [if_pos rfl]; exact add (by rw [ae, hs])
theorem x_sho1 {a : Nat → Int32} {z q : Nat} {v : Int32} (hW : WF a) {h : Sh} : ∀ (r n m : Nat) (S : St), n + r = ns a → r < m → XS a v.toInt q S h →
    mX5_showShoalest_4 z m (encN (sho a v.toInt q n)) (nI (fc a v.toInt q n)) S = mX5_showShoalest_53 z (encN (sho a v.toInt q (ns a))) S := by
  obtain ⟨e1, hN⟩ := ns_nI hW
  have fN := fc_le a v.toInt q (ns a)
  intro r
  induction r with
  | zero =>
    intro n m S hn hm hX
    obtain ⟨m, rfl⟩ : ∃ n', m = n' + 1 := ⟨m - 1, by omega⟩
    have : n = ns a := by omega
    subst this
    rw [mX5_showShoalest_4]; unfold mX5_showShoalest_4b
    rw [hX.2.1, if_pos (by rw [leI (by omega) (by omega)]; omega)]
  | succ r ih =>
    intro n m S hn hm hX
    cases hf : fnB a v.toInt q n with
    | false =>
      have := ih (n + 1) m S (by omega) (by omega) hX
      have e : sho a v.toInt q (n + 1) = sho a v.toInt q n := by
        conv => lhs; unfold sho
        rw [hf]; rfl
      rw [fc_n hf, e] at this; exact this
    | true =>
      obtain ⟨m, rfl⟩ : ∃ n', m = n' + 1 := ⟨m - 1, by omega⟩
      have fl := fc_lt hf (show n < ns a by omega)
      have go := ih (n + 1) m S (by omega) (by omega) hX
      have e : sho a v.toInt q (n + 1) = (match sho a v.toInt q n with | none => some n | some m => if cor a m ≤ cor a n then some m else some n) := by
        conv => lhs; unfold sho
        rw [hf]; rfl
      rw [mX5_showShoalest_4]; unfold mX5_showShoalest_4b
      rw [hX.2.1, if_neg (by rw [leI (by omega) (by omega)]; omega), rd_nI (by omega) (by omega), ob, hX.2.2.1 n (by omega) hf, nI_1, ← fc_s hf]
      cases hs : sho a v.toInt q n with
      | none =>
        rw [hs] at e
        rw [e] at go
        show (if (-1 : Int32) = -1 then _ else _) = _
        rw [if_pos rfl]; exact go
      | some k =>
        rw [hs] at e
        dsimp only at e
        obtain ⟨k1, k2⟩ := sho_ok n hs
        show (if nI k = -1 then _ else _) = _
        rw [if_neg (nI_m1 (by omega)), rd_nI (by omega) (by omega), ob, show encN (some k) = nI k from rfl, rd_nI (by omega) (by omega), ob]
        by_cases c : fA S 16 k ≤ fA S 16 n
        · rw [if_pos c]; rw [i_le, hX.1.2 k (by omega), hX.1.2 n (by omega)] at c
          rw [e, if_pos c] at go; exact go
        · rw [if_neg c]; rw [i_le, hX.1.2 k (by omega), hX.1.2 n (by omega)] at c
          rw [e, if_neg c] at go; exact go
theorem x_sho {a : Nat → Int32} {z q : Nat} {v : Int32} (hz : 10000 ≤ z) (hW : WF a) {S : St} (hX : XS a v.toInt q S (alF a v.toInt q (ns a))) : ∃ S', mX5_showShoalest z S = some S' ∧ XS a v.toInt q S' (sh2 a v.toInt q) ∧ FrS S S' := by
  obtain ⟨e1, hN⟩ := ns_nI hW
  unfold mX5_showShoalest
  have e : mX5_showShoalest_4 z z (-1) 0 S = mX5_showShoalest_53 z (encN (sho a v.toInt q (ns a))) S := x_sho1 (z := z) hW (ns a) 0 z S (by omega) (by omega) hX
  rw [e]
  unfold mX5_showShoalest_53 sh2
  cases hs : sho a v.toInt q (ns a) with
  | none =>
    show ∃ S', (if (-1 : Int32) = -1 then some S else _) = some S' ∧ _
    rw [if_pos rfl]
    exact ⟨S, rfl, hX, FrS.rf S⟩
  | some k =>
    obtain ⟨k1, k2⟩ := sho_ok (ns a) hs
    show ∃ S', (if nI k = -1 then some S else (rd (fA S 42) 200 (nI k)).bind _) = some S' ∧ _
    dsimp only
    rw [if_neg (nI_m1 (by omega)), rd_nI (by omega) (by omega), ob, hX.2.2.2.2.2 k k1 k2]
    by_cases c : (alF a v.toInt q (ns a)).2.2 k = 6
    · rw [if_pos c, if_pos c]
      obtain ⟨S1, x1, x2, x3⟩ := x_addSh (r := 1) hW (alF_ok (ns a) (Nat.le_refl _)).1 hX k1 k2 c
      have x1' : mX5_add (encN (some k)) 1 S = some S1 := x1
      rw [x1', ob]
      exact ⟨S1, rfl, x2, x3⟩
    · rw [if_neg c, if_neg c]
      exact ⟨S, rfl, hX, FrS.rf S⟩
