/-! PURE: a sounding more -/
def tabS (a : Nat → Int32) (n : Nat) (f : Nat → Int32) : Nat → Int32 := fun k => if 2564 + 10 * n ≤ k ∧ k < 2564 + 10 * n + 10 then f (k - (2564 + 10 * n)) else if k = 1 then nI (n + 1) else a k
theorem tabS_in (a : Nat → Int32) (n : Nat) (f : Nat → Int32) {j : Nat} (hj : j < 10) : tabS a n f (2564 + 10 * n + j) = f j := by
  unfold tabS; rw [if_pos (by omega)]; congr 1; omega
theorem tabS_1 (a : Nat → Int32) (n : Nat) (f : Nat → Int32) : tabS a n f 1 = nI (n + 1) := by
  unfold tabS; rw [if_neg (by omega), if_pos rfl]
theorem tabS_o (a : Nat → Int32) (n : Nat) (f : Nat → Int32) {k : Nat} (h1 : k ≠ 1) (h : k < 2564 + 10 * n ∨ 2564 + 10 * n + 10 ≤ k) : tabS a n f k = a k := by
  unfold tabS; rw [if_neg (by omega), if_neg h1]
theorem rel_add {S S' : St} {a f : Nat → Int32} {n : Nat} (h : Rel 0 S a) (hn : n < 200) (en : ns a = n) (hI1 : fI S' 1 = fI S 1) (hI2 : fI S' 2 = nI (n + 1)) (hA : ∀ k, k < 6 → fA S' k = fA S k) (hS : ∀ j m, j < 10 → fA S' (6 + j) m = if m = n then f j else fA S (6 + j) m) : Rel 0 S' (tabS a n f) := by
  obtain ⟨h1, h2, h3, h4, h5, h6⟩ := h
  have e1 : nl (tabS a n f) = nl a := by unfold nl; rw [tabS_o _ _ _ (by omega) (by omega)]
  have e2 : ns (tabS a n f) = n + 1 := by unfold ns; rw [tabS_1, nI_ti (by omega)]; omega
  have e3 : ∀ d, d < 100 → tn (tabS a n f) d = tn a d := fun d hd => by unfold tn; rw [tabS_o _ _ _ (by omega) (by omega)]
  refine ⟨by rw [tabS_o _ _ _ (by omega) (by omega)]; exact hI1.trans h1, by rw [tabS_1]; exact hI2, fun l j hl hl2 hj => ?_, fun d hd => ?_, fun d k hd hk hk2 => ?_, fun m j hm hm2 hj => ?_⟩
  · rw [tabS_o _ _ _ (by omega) (by omega), hA _ (by omega)]; exact h3 l j hl (by omega) hj
  · rw [tabS_o _ _ _ (by omega) (by omega), hA _ (by omega)]; exact h4 d hd
  · rw [e3 d hd] at hk2
    rw [tabS_o _ _ _ (by omega) (by omega), tabS_o _ _ _ (by omega) (by omega), hA _ (by omega), hA _ (by omega)]; exact h5 d k hd hk hk2
  · rw [show 17 * 0 + 6 + j = 6 + j by omega, hS j m hj]
    by_cases c : m = n
    · rw [if_pos c, c, tabS_in _ _ _ hj]
    · rw [if_neg c, tabS_o _ _ _ (by omega) (by omega)]
      have := h6 m j hm (by omega) hj
      rw [show 17 * 0 + 6 + j = 6 + j by omega] at this; exact this
theorem wf_add {a f : Nat → Int32} {n : Nat} (h : WF a) (hn : n < 200) (en : ns a = n) (hf : (0 ≤ (f 0).toInt ∧ (f 0).toInt ≤ 5) ∧ (0 ≤ (f 1).toInt ∧ (f 1).toInt ≤ 255) ∧ (0 ≤ (f 2).toInt ∧ (f 2).toInt ≤ 255) ∧ (-200 ≤ (f 3).toInt ∧ (f 3).toInt ≤ 19999) ∧ (0 ≤ (f 4).toInt ∧ (f 4).toInt ≤ 99) ∧
  ((f 0).toInt < 3 → (0 ≤ (f 3).toInt ∧ 0 ≤ (f 5).toInt ∧ (f 5).toInt < nl a ∧ 0 ≤ (f 6).toInt ∧ (f 6).toInt ≤ 1439)) ∧ (3 ≤ (f 0).toInt → (f 5).toInt = -1) ∧ (0 ≤ (f 7).toInt ∧ (f 7).toInt ≤ 100) ∧ (1 ≤ (f 8).toInt ∧ (f 1).toInt + (f 8).toInt ≤ 256) ∧ (1 ≤ (f 9).toInt ∧ (f 2).toInt + (f 9).toInt ≤ 256)) : WF (tabS a n f) := by
  obtain ⟨h1, h2, h3, h4, h5, h6⟩ := h
  have e1 : nl (tabS a n f) = nl a := by unfold nl; rw [tabS_o _ _ _ (by omega) (by omega)]
  have e2 : ns (tabS a n f) = n + 1 := by unfold ns; rw [tabS_1, nI_ti (by omega)]; omega
  have e3 : ∀ d, d < 100 → tn (tabS a n f) d = tn a d := fun d hd => by unfold tn; rw [tabS_o _ _ _ (by omega) (by omega)]
  refine ⟨by rw [tabS_o _ _ _ (by omega) (by omega)]; exact h1, by rw [tabS_1, nI_ti (by omega)]; omega, fun l hl hl2 => ?_, fun d hd => ?_, fun d k hd hk hk2 => ?_, fun m hm hm2 => ?_⟩
  · unfold la
    rw [tabS_o _ _ _ (by omega) (by omega), tabS_o _ _ _ (by omega) (by omega), tabS_o _ _ _ (by omega) (by omega)]; exact h3 l hl (by omega)
  · rw [tabS_o _ _ _ (by omega) (by omega)]; exact h4 d hd
  · rw [e3 d hd] at hk2
    unfold tm th
    rw [tabS_o _ _ _ (by omega) (by omega), tabS_o _ _ _ (by omega) (by omega)]; exact h5 d k hd hk hk2
  · by_cases c : m = n
    · subst c
      have q : ∀ j, j < 10 → sa (tabS a m f) m j = (f j).toInt := fun j hj => by unfold sa; rw [tabS_in _ _ _ hj]
      unfold okS
      rw [q 0 (by omega), q 1 (by omega), q 2 (by omega), q 3 (by omega), q 4 (by omega), q 5 (by omega), q 6 (by omega), q 7 (by omega), q 8 (by omega), q 9 (by omega), e1]
      exact hf
    · have q : ∀ j, j < 10 → sa (tabS a n f) m j = sa a m j := fun j hj => by unfold sa; rw [tabS_o _ _ _ (by omega) (by omega)]
      have g := h6 m hm (by omega)
      unfold okS at g ⊢
      rw [q 0 (by omega), q 1 (by omega), q 2 (by omega), q 3 (by omega), q 4 (by omega), q 5 (by omega), q 6 (by omega), q 7 (by omega), q 8 (by omega), q 9 (by omega), e1]
      exact g
def ten (f0 f1 f2 f3 f4 f5 f6 f7 f8 f9 : Int32) : Nat → Int32
  | 0 => f0 | 1 => f1 | 2 => f2 | 3 => f3 | 4 => f4 | 5 => f5 | 6 => f6 | 7 => f7 | 8 => f8 | _ => f9
-- the class's side
def addX (S : St) (n : Nat) (k x y r : Int32) : St := sI (sA (sA (sA (sA (sA (sA (sA (sA (sA (sA S 6 (upd (fA S 6) n k)) 7 (upd (fA S 7) n x)) 8 (upd (fA S 8) n y)) 9 (upd (fA S 9) n r)) 13 (upd (fA S 13) n 100)) 10 (upd (fA S 10) n 0)) 11 (upd (fA S 11) n (-1))) 12 (upd (fA S 12) n (-1))) 14 (upd (fA S 14) n 1)) 15 (upd (fA S 15) n 1)) 2 (nI (n + 1))
def orgX (S : St) (n : Nat) (d l m : Int32) : St := sA (sA (sA S 10 (upd (fA S 10) n d)) 11 (upd (fA S 11) n l)) 12 (upd (fA S 12) n m)
def spanX (S : St) (n : Nat) (w h : Int32) : St := sA (sA S 14 (upd (fA S 14) n w)) 15 (upd (fA S 15) n h)
theorem x_org {S : St} {n : Nat} (hn : n < 200) (d l m : Int32) : mX6_setOrigin (nI n) d l m S = some (orgX S n d l m) := by
  unfold mX6_setOrigin orgX
  rw [wr_nI hn (by omega), ob, wr_nI hn (by omega), ob, wr_nI hn (by omega), ob]
  rfl
theorem x_span {S : St} {n : Nat} (hn : n < 200) (w h : Int32) : mX6_setSpan (nI n) w h S = some (spanX S n w h) := by
  unfold mX6_setSpan spanX
  rw [wr_nI hn (by omega), ob, wr_nI hn (by omega), ob]
  rfl
theorem x_add {S : St} {n : Nat} (h : fI S 2 = nI n) (hn : n < 200) (k x y r : Int32) : mX6_add k x y r S = some (nI n, addX S n k x y r) := by
  unfold mX6_add
  rw [h, if_pos (by rw [show (200 : Int32) = nI 200 from rfl, nI_ltI (by omega) (by omega)]; exact hn), wr_nI hn (by omega), ob]
  simp only [fI_sA, h]
  rw [wr_nI hn (by omega), ob, wr_nI hn (by omega), ob, wr_nI hn (by omega), ob, wr_nI hn (by omega), ob, x_org hn, ob]
  have e : ∀ T : St, ∀ d l m : Int32, fI (orgX T n d l m) 2 = fI T 2 := fun _ _ _ _ => rfl
  simp only [e, fI_sA, h]
  rw [x_span hn, ob]
  have e2 : ∀ T : St, ∀ a b : Int32, fI (spanX T n a b) 2 = fI T 2 := fun _ _ _ => rfl
  simp only [e, e2, fI_sA, h, nI_1, fI_eq, nI_pred]
  rfl
theorem x_addS {S : St} {n nx c : Nat} (h : fI S 2 = nI n) (hn : n < 200) (hnx : nx < 20) (hc : c ≤ 20) (h5 : fI S 5 = nI nx) (h6 : fI S 6 = nI c) (k x y r : Int32) : mX9_addSounding k x y r S = some (nI n, pushX 5 (nI n) 0 nx c (addX S n k x y r)) := by
  unfold mX9_addSounding
  rw [h, if_pos (by rw [show (200 : Int32) = nI 200 from rfl, nI_ltI (by omega) (by omega)]; exact hn), x_add h hn, ob, w_push 5 (nI n) 0 hnx hc (by exact h5) (by exact h6), ob]
theorem x_full {S : St} (h : fI S 2 = nI 200) (k x y r : Int32) : mX9_addSounding k x y r S = some (-1, S) := by
  unfold mX9_addSounding
  rw [h, if_neg (by decide)]
/-- the class's arrays behind it -/
theorem arrX (S : St) (n nx c : Nat) (k x y r d l m w h : Int32) : ∀ j i, j < 10 → fA (spanX (orgX (pushX 5 (nI n) 0 nx c (addX S n k x y r)) n d l m) n w h) (6 + j) i = if i = n then ten k x y r d l m 100 w h j else fA S (6 + j) i := by
  intro j i hj
  unfold spanX orgX pushX addX
  rcases (show j = 0 ∨ j = 1 ∨ j = 2 ∨ j = 3 ∨ j = 4 ∨ j = 5 ∨ j = 6 ∨ j = 7 ∨ j = 8 ∨ j = 9 by omega) with rfl | rfl | rfl | rfl | rfl | rfl | rfl | rfl | rfl | rfl <;>
  · simp only [fA_sA, fA_sI, up_e, Nat.reduceAdd, Nat.reduceEqDiff, if_true, if_false, reduceIte, ten]
    try (by_cases q : i = n <;> simp [q, up_e])
theorem spanX_1 {S : St} {n : Nat} {w h : Int32} (hw : fA S 14 n = w) (hh : fA S 15 n = h) : ∀ j i, fA (spanX S n w h) j i = fA S j i := by
  intro j i
  unfold spanX
  by_cases a : j = 15
  · subst a
    rw [fA_eq, up_e]
    by_cases b : i = n
    · rw [if_pos b, b, hh]
    · rw [if_neg b]
  · rw [fA_ne a]
    by_cases b : j = 14
    · subst b
      rw [fA_eq, up_e]
      by_cases d : i = n
      · rw [if_pos d, d, hw]
      · rw [if_neg d]
    · rw [fA_ne b]
-- the reference's side
theorem y_add {S : St} {z n ny c : Nat} (hz : 10000 ≤ z) (h : fA S 0 1 = nI n) (hn : n < 200) (hy : ny < 20) (hc : c ≤ 20) (h1 : fI S 1 = nI ny) (h0 : fI S 0 = nI c) (f0 f1 f2 f3 f4 f5 f6 f8 f9 : Int32) :
    ∃ g b : Nat → Int32, mX10_add z f0 f1 f2 f3 f4 f5 f6 f8 f9 S = some (nI n, sA (pushY g ny c S) 0 b) ∧ (∀ j, g j = if 4564 * ny ≤ j ∧ j < 4564 * ny + 4564 then fA S 0 (j - 4564 * ny) else fA S 1 j) ∧ ∀ k, k < 4564 → b k = tabS (fA S 0) n (ten f0 f1 f2 f3 f4 f5 f6 100 f8 f9) k := by
  obtain ⟨g, e, hg⟩ := w_acts hz hy hc h1 h0
  refine ⟨g, upd (upd (upd (upd (upd (upd (upd (upd (upd (upd (upd (fA S 0) (2564 + 10 * n) f0) (2564 + 10 * n + 1) f1) (2564 + 10 * n + 2) f2) (2564 + 10 * n + 3) f3) (2564 + 10 * n + 4) f4) (2564 + 10 * n + 5) f5) (2564 + 10 * n + 6) f6) (2564 + 10 * n + 7) 100) (2564 + 10 * n + 8) f8) (2564 + 10 * n + 9) f9) 1 (nI (n + 1)), ?_, hg, fun k hk => ?_⟩
  · unfold mX10_add
    rw [e, ob, rd_1 (by omega) (by omega), ob, show fA (pushY g ny c S) 0 = fA S 0 from rfl, h,
      wr_at (i := 2564 + 10 * nI n) (2564 + 10 * n) (nI_lin 2564 10 n) (by omega) (by omega), ob, fA_eq,
      wr_at (i := 2564 + 10 * nI n + 1) _ (ixs n 1) (by omega) (by omega), ob, sA_sA, fA_eq,
      wr_at (i := 2564 + 10 * nI n + 2) _ (ixs n 2) (by omega) (by omega), ob, sA_sA, fA_eq,
      wr_at (i := 2564 + 10 * nI n + 3) _ (ixs n 3) (by omega) (by omega), ob, sA_sA, fA_eq,
      wr_at (i := 2564 + 10 * nI n + 4) _ (ixs n 4) (by omega) (by omega), ob, sA_sA, fA_eq,
      wr_at (i := 2564 + 10 * nI n + 5) _ (ixs n 5) (by omega) (by omega), ob, sA_sA, fA_eq,
      wr_at (i := 2564 + 10 * nI n + 6) _ (ixs n 6) (by omega) (by omega), ob, sA_sA, fA_eq,
      wr_at (i := 2564 + 10 * nI n + 7) _ (ixs n 7) (by omega) (by omega), ob, sA_sA, fA_eq,
      wr_at (i := 2564 + 10 * nI n + 8) _ (ixs n 8) (by omega) (by omega), ob, sA_sA, fA_eq,
      wr_at (i := 2564 + 10 * nI n + 9) _ (ixs n 9) (by omega) (by omega), ob, sA_sA, fA_eq,
      rd_1 (by omega) (by omega), ob]
    have q : ∀ (t : Nat → Int32) (i : Nat) (x : Int32), i ≠ 1 → upd t i x 1 = t 1 := fun t i x h => up_n _ _ (Ne.symm h)
    rw [q _ _ _ (by omega), q _ _ _ (by omega), q _ _ _ (by omega), q _ _ _ (by omega), q _ _ _ (by omega), q _ _ _ (by omega), q _ _ _ (by omega), q _ _ _ (by omega), q _ _ _ (by omega), q _ _ _ (by omega), h, nI_1, wr_1 (by omega) (by omega), ob, sA_sA]
  · by_cases c1 : 2564 + 10 * n ≤ k ∧ k < 2564 + 10 * n + 10
    · obtain ⟨j, rfl⟩ : ∃ j, k = 2564 + 10 * n + j := ⟨k - (2564 + 10 * n), by omega⟩
      rw [tabS_in _ _ _ (by omega)]
      rcases (show j = 0 ∨ j = 1 ∨ j = 2 ∨ j = 3 ∨ j = 4 ∨ j = 5 ∨ j = 6 ∨ j = 7 ∨ j = 8 ∨ j = 9 by omega) with rfl | rfl | rfl | rfl | rfl | rfl | rfl | rfl | rfl | rfl <;>
      · rw [up_n _ _ (by omega)]
        simp [up_e, ten]
    · by_cases c2 : k = 1
      · rw [c2, up_s, tabS_1]
      · rw [tabS_o _ _ _ c2 (by omega), up_n _ _ c2, up_n _ _ (by omega), up_n _ _ (by omega), up_n _ _ (by omega), up_n _ _ (by omega), up_n _ _ (by omega), up_n _ _ (by omega), up_n _ _ (by omega), up_n _ _ (by omega), up_n _ _ (by omega), up_n _ _ (by omega)]
/-- both sides behind a sounding more -/
theorem inv_add {Sx Sy X Y : St} {c nx ny n : Nat} {g b : Nat → Int32} {k x y r d l m w h : Int32} (hI : Inv Sx Sy) (hn : n < 200) (en : ns (fA Sy 0) = n) (hc : c ≤ 20) (hnx : nx < 20) (hny : ny < 20)
    (hh : ∀ i, i < c → WF (snap Sy ny (i + 1)) ∧ Und (fA Sx 34 (slot nx i)) (fA Sx 35 (slot nx i)) (fA Sx 36 (slot nx i)) (snap Sy ny i) (snap Sy ny (i + 1)))
    (hg : ∀ j, g j = if 4564 * ny ≤ j ∧ j < 4564 * ny + 4564 then fA Sy 0 (j - 4564 * ny) else fA Sy 1 j)
    (hX : X = spanX (orgX (pushX 5 (nI n) 0 nx c (addX Sx n k x y r)) n d l m) n w h) (hY : Y = sA (pushY g ny c Sy) 0 b) (hb : ∀ i, i < 4564 → b i = tabS (fA Sy 0) n (ten k x y r d l m 100 w h) i)
    (hf : WF (tabS (fA Sy 0) n (ten k x y r d l m 100 w h))) : Inv X Y := by
  subst hX
  refine inv_push (k := 5) (w := nI n) (o := 0) hI hc hnx hny hh hg ?_ hY ?_ (hf.congr hb) ?_
  · have q : FrU (pushX 5 (nI n) 0 nx c Sx) (pushX 5 (nI n) 0 nx c (addX Sx n k x y r)) := FrU.push (by
      unfold addX
      exact ((((((((((FrU.A Sx (k := 6) (by omega) _).tr (FrU.A _ (k := 7) (by omega) _)).tr (FrU.A _ (k := 8) (by omega) _)).tr (FrU.A _ (k := 9) (by omega) _)).tr (FrU.A _ (k := 13) (by omega) _)).tr (FrU.A _ (k := 10) (by omega) _)).tr (FrU.A _ (k := 11) (by omega) _)).tr (FrU.A _ (k := 12) (by omega) _)).tr (FrU.A _ (k := 14) (by omega) _)).tr (FrU.A _ (k := 15) (by omega) _)).tr (FrU.I2 _ _))
    refine q.tr ?_
    unfold spanX orgX
    exact (((FrU.A _ (k := 10) (by omega) _).tr (FrU.A _ (k := 11) (by omega) _)).tr (FrU.A _ (k := 12) (by omega) _)).tr ((FrU.A _ (k := 14) (by omega) _).tr (FrU.A _ (k := 15) (by omega) _))
  · refine Rel.congr ?_ hb
    refine rel_add hI.1 hn en rfl rfl (fun j hj => ?_) (arrX Sx n nx c k x y r d l m w h)
    unfold spanX orgX pushX addX
    simp only [fA_sA, fA_sI]
    rw [if_neg (by omega), if_neg (by omega), if_neg (by omega), if_neg (by omega), if_neg (by omega), if_neg (by omega), if_neg (by omega), if_neg (by omega), if_neg (by omega), if_neg (by omega), if_neg (by omega), if_neg (by omega), if_neg (by omega), if_neg (by omega), if_neg (by omega), if_neg (by omega), if_neg (by omega), if_neg (by omega)]
  · have e0 := (ns_nI hI.2.1).1
    rw [en] at e0
    refine Und.congr (und_snd (P := tabS (fA Sy 0) n (ten k x y r d l m 100 w h)) (P' := fA Sy 0) hn (tabS_1 _ _ _) e0 (fun i hi h1 h2 => (tabS_o _ _ _ h1 h2).symm)) hb (fun _ _ => rfl)
