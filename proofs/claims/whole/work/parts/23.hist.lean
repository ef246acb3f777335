/-! PURE: the acts that can be undone, on both sides -/
theorem fA_ne {S : St} {k j : Nat} {f : Nat → Int32} (h : j ≠ k) : fA (sA S k f) j = fA S j := by rw [fA_sA, if_neg h]
theorem fA_eq {S : St} {k : Nat} {f : Nat → Int32} : fA (sA S k f) k = f := by rw [fA_sA, if_pos rfl]
theorem fI_ne {S : St} {k j : Nat} {x : Int32} (h : j ≠ k) : fI (sI S k x) j = fI S j := by rw [fI_sI, if_neg h]
theorem fI_eq {S : St} {k : Nat} {x : Int32} : fI (sI S k x) k = x := by rw [fI_sI, if_pos rfl]
theorem rem20 (n : Nat) (h : n < 1000) : nI n - nI n / 20 * 20 = nI (n % 20) := pk_rem (a := n) (d := 20) (by omega) (by omega) (by omega)
theorem min20 (c : Nat) (h : c ≤ 20) : (if (20 : Int32) < nI c + 1 then (20 : Int32) else nI c + 1) = nI (min (c + 1) 20) := by
  have e : nI c + 1 = nI (c + 1) := nI_1 c
  have e20 : (20 : Int32) = nI 20 := rfl
  rw [e, e20]
  by_cases q : c = 20
  · subst q; rfl
  · rw [if_neg (by rw [nI_ltI (by omega) (by omega)]; omega), Nat.min_eq_left (by omega)]
theorem w_min (S : St) (a b : Int32) : mJ9_min S a b = some (if b < a then b else a) := by
  unfold mJ9_min; split <;> rfl
theorem w_max (S : St) (a b : Int32) : mJ9_max S a b = some (if a < b then b else a) := by
  unfold mJ9_max; split <;> rfl
theorem w_abs (S : St) (a : Int32) : mJ9_abs S a = some (if 0 ≤ a then a else -a) := by
  unfold mJ9_abs; split <;> rfl
/-- the class's ring takes an act -/
def pushX (k w o : Int32) (nx c : Nat) (S : St) : St := sI (sI (sA (sA (sA S 34 (upd (fA S 34) nx k)) 35 (upd (fA S 35) nx w)) 36 (upd (fA S 36) nx o)) 5 (nI ((nx + 1) % 20))) 6 (nI (min (c + 1) 20))
theorem w_push {S : St} {nx c : Nat} (k w o : Int32) (hn : nx < 20) (hc : c ≤ 20) (h5 : fI S 5 = nI nx) (h6 : fI S 6 = nI c) : mX0_add k w o S = some (pushX k w o nx c S) := by
  unfold mX0_add
  simp only [fI_sA, fI_sI, fA_sA, fA_sI, h5, h6]
  rw [wr_nI hn (by omega), ob]
  simp only [Nat.reduceEqDiff, if_false, if_true, reduceIte]
  rw [wr_nI hn (by omega), ob, wr_nI hn (by omega), ob, w_min, ob]
  have e : (nI nx + 1 - (nI nx + 1) / 20 * 20) = nI ((nx + 1) % 20) := by rw [nI_1]; exact rem20 _ (by omega)
  rw [e, min20 c hc]
  rfl
/-- the reference keeps its table -/
theorem w_actsL (z ny : Nat) (hy : ny < 20) : ∀ (n k : Nat) (S : St), k ≤ 4564 → 4564 - k < n → fI S 1 = nI ny → ∃ g : Nat → Int32, mX10_acts_2 z n (nI k) S = mX10_acts_36 z (sA S 1 g) ∧ ∀ j, g j = if 4564 * ny + k ≤ j ∧ j < 4564 * ny + 4564 then fA S 0 (j - 4564 * ny) else fA S 1 j := by
  intro n
  induction n with
  | zero => intro k S hk hn; omega
  | succ n ih =>
    intro k S hk hn h1
    show ∃ g : Nat → Int32, mX10_acts_2b z (mX10_acts_2 z n) (nI k) S = _ ∧ _
    unfold mX10_acts_2b
    by_cases c : k = 4564
    · subst c
      refine ⟨fA S 1, ?_, fun j => by rw [if_neg (by omega)]⟩
      rw [if_pos (by decide)]
      congr 1
      unfold sA fA
      refine Prod.ext rfl (Prod.ext rfl (funext fun j => ?_))
      by_cases q : j = 1 <;> simp [q]
    · rw [if_neg (by rw [show (4564 : Int32) = nI 4564 from rfl, nI_leI (by omega) (by omega)]; omega), rd_nI (by omega) (by omega), ob, h1,
        wr_at (4564 * ny + k) (by rw [show (4564 : Int32) = nI 4564 from rfl, pk_mul, nI_add]) (by omega) (by omega), ob, nI_1]
      obtain ⟨g, e, hg⟩ := ih (k + 1) (sA S 1 (upd (fA S 1) (4564 * ny + k) (fA S 0 k))) (by omega) (by omega) h1
      refine ⟨g, by rw [e, sA_sA], fun j => ?_⟩
      rw [hg j, fA_ne (by omega), fA_eq, up_e]
      by_cases c1 : 4564 * ny + (k + 1) ≤ j ∧ j < 4564 * ny + 4564
      · rw [if_pos c1, if_pos (by omega)]
      · rw [if_neg c1]
        by_cases c2 : j = 4564 * ny + k
        · rw [if_pos c2, if_pos (by omega), c2]; congr 1; omega
        · rw [if_neg c2, if_neg (by omega)]
def pushY (g : Nat → Int32) (ny c : Nat) (S : St) : St := sI (sI (sA S 1 g) 1 (nI ((ny + 1) % 20))) 0 (nI (min (c + 1) 20))
theorem w_acts {S : St} {z ny c : Nat} (hz : 10000 ≤ z) (hy : ny < 20) (hc : c ≤ 20) (h1 : fI S 1 = nI ny) (h0 : fI S 0 = nI c) : ∃ g : Nat → Int32, mX10_acts z S = some (pushY g ny c S) ∧ ∀ j, g j = if 4564 * ny ≤ j ∧ j < 4564 * ny + 4564 then fA S 0 (j - 4564 * ny) else fA S 1 j := by
  obtain ⟨g, e, hg⟩ := w_actsL z ny hy z 0 S (by omega) (by omega) h1
  refine ⟨g, ?_, fun j => by rw [hg j]; simp only [Nat.add_zero]⟩
  unfold mX10_acts
  rw [show (0 : Int32) = nI 0 from rfl, e]
  unfold mX10_acts_36 mX10_acts_70
  simp only [fI_sA, fI_sI, h1, h0, Nat.reduceEqDiff, if_false, if_true, reduceIte]
  have e1 : (nI ny + 1 - (nI ny + 1) / 20 * 20) = nI ((ny + 1) % 20) := by rw [nI_1]; exact rem20 _ (by omega)
  simp only [e1]
  by_cases q : c = 20
  · subst q; rfl
  · rw [if_neg (by rw [show (20 : Int32) = nI 20 from rfl, nI_leI (by omega) (by omega)]; omega), nI_1]
    unfold pushY
    rw [Nat.min_eq_left (by omega)]
theorem Und.congr {k w o : Int32} {P P' Q Q' : Nat → Int32} (h : Und k w o P P') (e : ∀ k, k < 4564 → Q k = P k) (e' : ∀ k, k < 4564 → Q' k = P' k) : Und k w o Q Q' := by
  intro S hS
  obtain ⟨S', h1, h2, h3⟩ := h S (hS.congr (fun k hk => (e k hk).symm))
  exact ⟨S', h1, h2.congr e', h3⟩
/-- an act more on both sides -/
theorem hist_push {Sx Sy Sx' Sy' : St} {k w o : Int32} {c nx ny : Nat} {g : Nat → Int32} (hw : WF (fA Sy 0)) (hc : c ≤ 20) (hnx : nx < 20) (hny : ny < 20)
    (hh : ∀ i, i < c → WF (snap Sy ny (i + 1)) ∧ Und (fA Sx 34 (slot nx i)) (fA Sx 35 (slot nx i)) (fA Sx 36 (slot nx i)) (snap Sy ny i) (snap Sy ny (i + 1)))
    (hg : ∀ j, g j = if 4564 * ny ≤ j ∧ j < 4564 * ny + 4564 then fA Sy 0 (j - 4564 * ny) else fA Sy 1 j)
    (x5 : fI Sx' 5 = nI ((nx + 1) % 20)) (x6 : fI Sx' 6 = nI (min (c + 1) 20)) (y1 : fI Sy' 1 = nI ((ny + 1) % 20)) (y0 : fI Sy' 0 = nI (min (c + 1) 20))
    (a34 : fA Sx' 34 = upd (fA Sx 34) nx k) (a35 : fA Sx' 35 = upd (fA Sx 35) nx w) (a36 : fA Sx' 36 = upd (fA Sx 36) nx o) (b1 : fA Sy' 1 = g)
    (hu : Und k w o (fA Sy' 0) (fA Sy 0)) : Hist Sx' Sy' := by
  refine ⟨min (c + 1) 20, (nx + 1) % 20, (ny + 1) % 20, by omega, by omega, by omega, x6, x5, y0, y1, fun i hi => ?_⟩
  have s0 : ∀ n, n < 20 → slot ((n + 1) % 20) 0 = n := fun n hn => by unfold slot; omega
  have s1 : ∀ n i, n < 20 → i < 19 → slot ((n + 1) % 20) (i + 1) = slot n i := fun n i hn hi => by unfold slot; omega
  have s2 : ∀ n i, n < 20 → i < 19 → slot n i ≠ n := fun n i hn hi => by unfold slot; omega
  have s3 : ∀ n i, slot n i < 20 := fun n i => by unfold slot; omega
  have p1 : ∀ k, k < 4564 → snap Sy' ((ny + 1) % 20) 1 k = fA Sy 0 k := fun k hk => by
    show fA Sy' 1 (4564 * slot ((ny + 1) % 20) 0 + k) = _
    rw [s0 ny hny, b1, hg, if_pos (by omega)]; congr 1; omega
  have p2 : ∀ i, i < 19 → ∀ k, k < 4564 → snap Sy' ((ny + 1) % 20) (i + 2) k = snap Sy ny (i + 1) k := fun i hi k hk => by
    show fA Sy' 1 (4564 * slot ((ny + 1) % 20) (i + 1) + k) = fA Sy 1 (4564 * slot ny i + k)
    have q := s2 ny i hny hi
    rw [s1 ny i hny hi, b1, hg, if_neg (by rcases Nat.lt_or_gt_of_ne q with q | q <;> omega)]
  cases i with
  | zero =>
    refine ⟨hw.congr p1, ?_⟩
    rw [s0 nx hnx, a34, a35, a36, up_s, up_s, up_s]
    exact hu.congr (fun _ _ => rfl) p1
  | succ i =>
    have hi2 : i < 19 := by omega
    obtain ⟨h1, h2⟩ := hh i (by omega)
    refine ⟨h1.congr (p2 i hi2), ?_⟩
    rw [s1 nx i hnx hi2, a34, a35, a36, up_n _ _ (s2 nx i hnx hi2), up_n _ _ (s2 nx i hnx hi2), up_n _ _ (s2 nx i hnx hi2)]
    refine h2.congr ?_ (p2 i hi2)
    cases i with
    | zero => exact p1
    | succ i => exact p2 i (by omega)
-- the seven kinds of acts undone
theorem FrU.I1 (S : St) (x : Int32) : FrU S (sI S 1 x) := ⟨fun j h _ => by rw [fI_sI, if_neg h], fun j _ => rfl⟩
theorem FrU.I2 (S : St) (x : Int32) : FrU S (sI S 2 x) := ⟨fun j _ h => by rw [fI_sI, if_neg h], fun j _ => rfl⟩
theorem FrU.A (S : St) {k : Nat} (hk : k < 16) (f : Nat → Int32) : FrU S (sA S k f) := ⟨fun j _ _ => rfl, fun j h => by rw [fA_sA, if_neg (by omega)]⟩
theorem und_line {P P' : Nat → Int32} {w o : Int32} {l : Nat} (hl : l < 20) (e0 : P 0 = nI (l + 1)) (e0' : P' 0 = nI l) (e : ∀ k, k < 4564 → k ≠ 0 → (k < 4 + 3 * l ∨ 4 + 3 * l + 3 ≤ k) → P' k = P k) : Und 0 w o P P' := by
  intro S hS
  have h1 : fI S 1 = nI (l + 1) := hS.1.trans e0
  have hm : mX4_removeLast S = some (sI S 1 (nI l)) := by
    unfold mX4_removeLast
    rw [w_max, ob, h1, show (1 : Int32) = nI 1 from rfl, pk_sub (by omega), show l + 1 - 1 = l by omega]
    congr 2
    by_cases q : l = 0
    · subst q; rfl
    · rw [if_pos (by rw [show (0 : Int32) = nI 0 from rfl, nI_ltI (by omega) (by omega)]; omega)]
  refine ⟨_, by unfold undoX; rw [if_pos rfl]; exact hm, ?_, FrU.I1 S _⟩
  have tl : (nI l).toInt.toNat = l := by rw [nI_ti (by omega)]; omega
  have hn : nl P = l + 1 := by unfold nl; rw [e0, nI_ti (by omega)]; omega
  have r := rel_nl hS (nI l) (fun l' j h1 h2 h3 => by
    have := hS.2.2.1 l' j h1 (by omega) h3
    rw [show 17 * 0 + j = j by omega] at this; exact this)
  obtain ⟨r1, r2, r3, r4, r5, r6⟩ := r
  have nP : nl P' = l := by unfold nl; rw [e0', nI_ti (by omega)]; omega
  have nu : nl (upd P 0 (nI l)) = l := by unfold nl; rw [up_s, nI_ti (by omega)]; omega
  refine ⟨by rw [e0']; rfl, by rw [e 1 (by omega) (by omega) (by omega), ← up_n P (nI l) (show 1 ≠ 0 by omega)]; exact r2, fun l' j h1 h2 h3 => ?_, fun d hd => ?_, fun d k hd hk hk2 => ?_, fun n j hn hn2 hj => ?_⟩
  · rw [e _ (by omega) (by omega) (by omega), ← up_n P (nI l) (show 4 + 3 * l' + j ≠ 0 by omega)]; exact r3 l' j h1 (by omega) h3
  · rw [e _ (by omega) (by omega) (by omega), ← up_n P (nI l) (show 64 + 25 * d ≠ 0 by omega)]; exact r4 d hd
  · have q : tn P' d = tn (upd P 0 (nI l)) d := by unfold tn; rw [e _ (by omega) (by omega) (by omega), up_n _ _ (by omega)]
    rw [e _ (by omega) (by omega) (by omega), e _ (by omega) (by omega) (by omega), ← up_n P (nI l) (show 65 + 25 * d + 2 * k ≠ 0 by omega), ← up_n P (nI l) (show 66 + 25 * d + 2 * k ≠ 0 by omega)]; exact r5 d k hd hk (by omega)
  · have q : ns P' = ns (upd P 0 (nI l)) := by unfold ns; rw [e _ (by omega) (by omega) (by omega), up_n _ _ (by omega)]
    rw [e _ (by omega) (by omega) (by omega), ← up_n P (nI l) (show 2564 + 10 * n + j ≠ 0 by omega)]; exact r6 n j hn (by omega) hj
theorem und_snd {P P' : Nat → Int32} {w o : Int32} {m : Nat} (hm : m < 200) (e0 : P 1 = nI (m + 1)) (e0' : P' 1 = nI m) (e : ∀ k, k < 4564 → k ≠ 1 → (k < 2564 + 10 * m ∨ 2564 + 10 * m + 10 ≤ k) → P' k = P k) : Und 5 w o P P' := by
  intro S hS
  have h1 : fI S 2 = nI (m + 1) := hS.2.1.trans e0
  have hmm : mX6_removeLast S = some (sI S 2 (nI m)) := by
    unfold mX6_removeLast
    rw [w_max, ob, h1, show (1 : Int32) = nI 1 from rfl, pk_sub (by omega), show m + 1 - 1 = m by omega]
    congr 2
    by_cases q : m = 0
    · subst q; rfl
    · rw [if_pos (by rw [show (0 : Int32) = nI 0 from rfl, nI_ltI (by omega) (by omega)]; omega)]
  refine ⟨_, by unfold undoX; rw [if_neg (by decide), if_neg (by decide), if_neg (by decide), if_neg (by decide), if_neg (by decide), if_pos rfl]; exact hmm, ?_, FrU.I2 S _⟩
  have tl : (nI m).toInt.toNat = m := by rw [nI_ti (by omega)]; omega
  have hn : ns P = m + 1 := by unfold ns; rw [e0, nI_ti (by omega)]; omega
  have r := rel_ns hS (nI m) (fun n j h1 h2 h3 => by
    have := hS.2.2.2.2.2 n j h1 (by omega) h3
    rw [show 17 * 0 + 6 + j = 6 + j by omega] at this; exact this)
  obtain ⟨r1, r2, r3, r4, r5, r6⟩ := r
  have nP : ns P' = m := by unfold ns; rw [e0', nI_ti (by omega)]; omega
  have nu : ns (upd P 1 (nI m)) = m := by unfold ns; rw [up_s, nI_ti (by omega)]; omega
  refine ⟨by rw [e 0 (by omega) (by omega) (by omega), ← up_n P (nI m) (show 0 ≠ 1 by omega)]; exact r1, by rw [e0']; rfl, fun l' j h1 h2 h3 => ?_, fun d hd => ?_, fun d k hd hk hk2 => ?_, fun n j hn hn2 hj => ?_⟩
  · have q : nl P' = nl (upd P 1 (nI m)) := by unfold nl; rw [e _ (by omega) (by omega) (by omega), up_n _ _ (by omega)]
    rw [e _ (by omega) (by omega) (by omega), ← up_n P (nI m) (show 4 + 3 * l' + j ≠ 1 by omega)]; exact r3 l' j h1 (by omega) h3
  · rw [e _ (by omega) (by omega) (by omega), ← up_n P (nI m) (show 64 + 25 * d ≠ 1 by omega)]; exact r4 d hd
  · have q : tn P' d = tn (upd P 1 (nI m)) d := by unfold tn; rw [e _ (by omega) (by omega) (by omega), up_n _ _ (by omega)]
    rw [e _ (by omega) (by omega) (by omega), e _ (by omega) (by omega) (by omega), ← up_n P (nI m) (show 65 + 25 * d + 2 * k ≠ 1 by omega), ← up_n P (nI m) (show 66 + 25 * d + 2 * k ≠ 1 by omega)]; exact r5 d k hd hk (by omega)
  · rw [e _ (by omega) (by omega) (by omega), ← up_n P (nI m) (show 2564 + 10 * n + j ≠ 1 by omega)]; exact r6 n j hn (by omega) hj
theorem und_newtide {P P' : Nat → Int32} {o : Int32} {d m : Nat} (hd : d < 100) (hm : m < 12) (e0 : P (64 + 25 * d) = nI (m + 1)) (e0' : P' (64 + 25 * d) = nI m) (e : ∀ k, k < 4564 → k ≠ 64 + 25 * d → k ≠ 65 + 25 * d + 2 * m → k ≠ 66 + 25 * d + 2 * m → P' k = P k) : Und 1 (nI d) o P P' := by
  intro S hS
  have h1 : fA S 3 d = nI (m + 1) := (hS.2.2.2.1 d hd).trans e0
  have hmm : mX8_removeLast (nI d) S = some (sA S 3 (upd (fA S 3) d (nI m))) := by
    unfold mX8_removeLast
    rw [rd_nI hd (by omega), ob, w_max, ob, h1, show (1 : Int32) = nI 1 from rfl, pk_sub (by omega), show m + 1 - 1 = m by omega]
    have q : (if (0 : Int32) < nI m then nI m else 0) = nI m := by
      by_cases q : m = 0
      · subst q; rfl
      · rw [if_pos (by rw [show (0 : Int32) = nI 0 from rfl, nI_ltI (by omega) (by omega)]; omega)]
    rw [q, wr_nI hd (by omega), ob]
  refine ⟨_, by unfold undoX; rw [if_neg (by decide), if_pos rfl]; exact hmm, ?_, FrU.A S (by omega) _⟩
  have tl : (nI m).toInt.toNat = m := by rw [nI_ti (by omega)]; omega
  have hn : tn P d = m + 1 := by unfold tn; rw [e0, nI_ti (by omega)]; omega
  have r := rel_tn hS hd (nI m) (fun k h1 h2 => by
    have := hS.2.2.2.2.1 d k hd h1 (by omega)
    exact this)
  obtain ⟨r1, r2, r3, r4, r5, r6⟩ := r
  have tP : tn P' d = m := by unfold tn; rw [e0', nI_ti (by omega)]; omega
  have tu : tn (upd P (64 + 25 * d) (nI m)) d = m := by unfold tn; rw [up_s, nI_ti (by omega)]; omega
  have q0 : ∀ d', d' ≠ d → 64 + 25 * d' ≠ 64 + 25 * d ∧ 64 + 25 * d' ≠ 65 + 25 * d + 2 * m ∧ 64 + 25 * d' ≠ 66 + 25 * d + 2 * m := fun d' h => ⟨by omega, ixt1 (j := 0) hm (by omega), by have := ixt1 (d := d) (d' := d') (k := m) (j := 1) hm (by omega); omega⟩
  refine ⟨by rw [e 0 (by omega) (by omega) (by omega) (by omega), ← up_n P (nI m) (show 0 ≠ 64 + 25 * d by omega)]; exact r1, by rw [e 1 (by omega) (by omega) (by omega) (by omega), ← up_n P (nI m) (show 1 ≠ 64 + 25 * d by omega)]; exact r2, fun l' j h1 h2 h3 => ?_, fun d' hd' => ?_, fun d' k hd' hk hk2 => ?_, fun n j hn hn2 hj => ?_⟩
  · have q : nl P' = nl (upd P (64 + 25 * d) (nI m)) := by unfold nl; rw [e _ (by omega) (by omega) (by omega) (by omega), up_n _ _ (by omega)]
    rw [e _ (by omega) (by omega) (by omega) (by omega), ← up_n P (nI m) (show 4 + 3 * l' + j ≠ 64 + 25 * d by omega)]; exact r3 l' j h1 (by omega) h3
  · by_cases c : d' = d
    · subst c
      rw [e0']
      exact (r4 d' hd').trans (up_s _ _ _)
    · obtain ⟨qa, qb, qc⟩ := q0 d' c
      rw [e _ (by omega) qa qb qc, ← up_n P (nI m) qa]; exact r4 d' hd'
  · by_cases c : d' = d
    · subst c
      rw [tP] at hk2
      rw [e _ (by omega) (by omega) (by omega) (by omega), e _ (by omega) (by omega) (by omega) (by omega), ← up_n P (nI m) (show 65 + 25 * d' + 2 * k ≠ 64 + 25 * d' by omega), ← up_n P (nI m) (show 66 + 25 * d' + 2 * k ≠ 64 + 25 * d' by omega)]
      exact r5 d' k hd' hk (by omega)
    · obtain ⟨qa, qb, qc⟩ := q0 d' c
      have q : tn P' d' = tn (upd P (64 + 25 * d) (nI m)) d' := by unfold tn; rw [e _ (by omega) qa qb qc, up_n _ _ qa]
      have i1 : 65 + 25 * d' + 2 * k ≠ 64 + 25 * d := (ixt1 (j := 0) hk (by omega)).symm
      have i2 : 66 + 25 * d' + 2 * k ≠ 64 + 25 * d := by have := ixt1 (d := d') (d' := d) (k := k) (j := 1) hk (by omega); omega
      rw [e _ (by omega) i1 (by rcases Nat.lt_or_gt_of_ne c with h | h <;> omega) (by omega), e _ (by omega) i2 (by omega) (by rcases Nat.lt_or_gt_of_ne c with h | h <;> omega), ← up_n P (nI m) i1, ← up_n P (nI m) i2]
      exact r5 d' k hd' hk (by omega)
  · have q : ns P' = ns (upd P (64 + 25 * d) (nI m)) := by unfold ns; rw [e _ (by omega) (by omega) (by omega) (by omega), up_n _ _ (by omega)]
    rw [e _ (by omega) (by omega) (by omega) (by omega), ← up_n P (nI m) (show 2564 + 10 * n + j ≠ 64 + 25 * d by omega)]; exact r6 n j hn (by omega) hj
theorem und_height {P P' : Nat → Int32} {d k : Nat} (hd : d < 100) (hk : k < 12) (e : ∀ i, i < 4564 → P' i = upd P (66 + 25 * d + 2 * k) (P' (66 + 25 * d + 2 * k)) i) : Und 2 (nI (12 * d + k)) (P' (66 + 25 * d + 2 * k)) P P' := by
  intro S hS
  refine ⟨sA S 5 (upd (fA S 5) (12 * d + k) (P' (66 + 25 * d + 2 * k))), by unfold undoX; rw [if_neg (by decide), if_neg (by decide), if_pos rfl, wr_nI (by omega) (by omega), ob], ?_, FrU.A S (by omega) _⟩
  have r := rel_tide hS hd hk (j := 1) (by omega) (P' (66 + 25 * d + 2 * k))
  rw [show 65 + 25 * d + 2 * k + 1 = 66 + 25 * d + 2 * k by omega] at r
  exact r.congr e
theorem und_speed {P P' : Nat → Int32} {l : Nat} (hl : l < 20) (e : ∀ i, i < 4564 → P' i = upd P (4 + 3 * l + 1) (P' (4 + 3 * l + 1)) i) : Und 3 (nI l) (P' (4 + 3 * l + 1)) P P' := by
  intro S hS
  exact ⟨sA S 1 (upd (fA S 1) l (P' (4 + 3 * l + 1))), by unfold undoX; rw [if_neg (by decide), if_neg (by decide), if_neg (by decide), if_pos rfl, wr_nI (by omega) (by omega), ob], (rel_line hS hl (by omega) _).congr e, FrU.A S (by omega) _⟩
theorem und_shift {P P' : Nat → Int32} {l : Nat} (hl : l < 20) (e : ∀ i, i < 4564 → P' i = upd P (4 + 3 * l + 2) (P' (4 + 3 * l + 2)) i) : Und 4 (nI l) (P' (4 + 3 * l + 2)) P P' := by
  intro S hS
  exact ⟨sA S 2 (upd (fA S 2) l (P' (4 + 3 * l + 2))), by unfold undoX; rw [if_neg (by decide), if_neg (by decide), if_neg (by decide), if_neg (by decide), if_pos rfl, wr_nI (by omega) (by omega), ob], (rel_line hS hl (by omega) _).congr e, FrU.A S (by omega) _⟩
theorem und_gone {P P' : Nat → Int32} {n : Nat} (hn : n < 200) (e : ∀ i, i < 4564 → P' i = upd P (2564 + 10 * n + 7) (P' (2564 + 10 * n + 7)) i) : Und 6 (nI n) (P' (2564 + 10 * n + 7)) P P' := by
  intro S hS
  exact ⟨sA S 13 (upd (fA S 13) n (P' (2564 + 10 * n + 7))), by unfold undoX; rw [if_neg (by decide), if_neg (by decide), if_neg (by decide), if_neg (by decide), if_neg (by decide), if_neg (by decide), wr_nI (by omega) (by omega), ob], (rel_snd (j := 7) hS hn (by omega) _).congr e, FrU.A S (by omega) _⟩
