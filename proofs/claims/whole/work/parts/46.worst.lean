/-! PURE: cross, worst -/
theorem FrC.px {S S' : St} (h : FrC S S') : PX S S' := ⟨fun k _ => h.1 k (by omega) (by omega) (by omega), fun k _ _ _ => h.2 k⟩
theorem x_miss {S : St} {a : Nat → Int32} (hW : WF a) (hG : Ghd a S) {i j : Nat} (hi : i < ns a) (hj : j < ns a) (e1 : fI S 10 = nI i) (e2 : fI S 11 = nI j) : mX3_miss S = some (fA S 16 i - fA S 16 j) := by
  have hN := (ns_nI hW).2
  unfold mX3_miss
  rw [e1, e2, if_neg (nI_m1 (by omega)), if_neg (nI_m1 (by omega)), rd_nI (by omega) (by omega), ob, rd_nI (by omega) (by omega), ob]
theorem p_cross {z : Nat} (hz : 10000 ≤ z) : ok_cross z Inv := by
  intro Sx Sy v1 v2 v3 v4 hI
  obtain ⟨e0, hl⟩ := nl_nI hI.2.1
  obtain ⟨e1, hN⟩ := ns_nI hI.2.1
  have hx : mX9_cross z v1 v2 v3 v4 Sx = mX9_cross_13 z v1 v2 v3 v4 (if v4 = 3 then -30000 else -1) Sx := by
    unfold mX9_cross
    by_cases c : v4 = 3
    · rw [if_pos c, if_pos c]
    · rw [if_neg c, if_neg c]
  have hy : ∀ S, mX10_cross_47 z v4 0 S = some (if v4 = 3 then -30000 else -1, S) := fun S => by
    unfold mX10_cross_47
    rw [if_pos rfl]
    by_cases c : v4 = 3
    · rw [if_pos c, if_pos c]
    · rw [if_neg c, if_neg c]
  rw [hx]
  unfold mX9_cross_13 mX10_cross
  generalize (if v4 = 3 then (-30000 : Int32) else -1) = dd at *
  rw [x_has (hI.1.1.trans e0) hl, ob, y_isLine e0 hl, ob]
  by_cases c1 : 0 ≤ v1.toInt ∧ v1.toInt < nl (fA Sy 0)
  · rw [if_pos c1, if_neg one_ne, if_neg one_ne, x_has (hI.1.1.trans e0) hl, ob, y_isLine e0 hl, ob]
    by_cases c2 : 0 ≤ v2.toInt ∧ v2.toInt < nl (fA Sy 0)
    · rw [if_pos c2, if_neg one_ne, if_neg one_ne]
      by_cases c3 : v2 ≤ v1
      · rw [if_pos c3, if_pos c3, hy]
        exact ⟨_, _, rfl, rfl, rfl, hI⟩
      · rw [if_neg c3, if_neg c3, x_rch, ob, y_in2 (B := 0) (C := 400) rfl rfl, ob]
        by_cases c4 : 0 ≤ v3.toInt ∧ v3.toInt ≤ 400
        · rw [if_pos c4, if_neg one_ne, if_neg one_ne]
          obtain ⟨k, rfl, hk⟩ := i_ex c1.1
          obtain ⟨l, rfl, hl2⟩ := i_ex c2.1
          obtain ⟨X, ex, hG, px⟩ := x_gather hz hI.2.1 hI.1
          obtain ⟨f, X', ex', fx, hf⟩ := x_cfind (k := k) (l := l) hz hI.2.1 (by omega) (by omega) c4 hG
          obtain ⟨f', Y, ey, fy, hf'⟩ := y_cross (S := Sy) (k := k) (l := l) hz hI.2.1 (by omega) (by omega) c4 rfl
          rw [ex, ob, ex', ob, ey, ob]
          dsimp only
          have kp := hI.keep (px.tr fx.px) fy.py
          rcases hf with ⟨f0, h⟩ | ⟨f1, q, q1, q2, q3, q4, q5⟩
          · rcases hf' with ⟨f0', -⟩ | ⟨-, q, q1, q2, -⟩
            · rw [f0, f0', if_pos rfl, if_pos rfl, hy]
              exact ⟨_, _, rfl, rfl, rfl, kp⟩
            · have := h q q1; omega
          · rcases hf' with ⟨-, h⟩ | ⟨f1', p, p1, p2, p3, p4, p5⟩
            · have := h q q1; omega
            · rw [q1] at p1; cases p1
              obtain ⟨b1, b2, b3, b4, b5, b6⟩ := cr_ok hI.2.1 k l q q1
              rw [f1, f1', if_neg one_ne, if_neg one_ne]
              unfold mX10_cross_47
              rw [if_neg one_ne]
              by_cases d0 : v4 = 0
              · rw [if_pos d0, if_pos d0]
                exact ⟨_, _, rfl, rfl, (by rw [i_eq]; exact q5.trans p5.symm), kp⟩
              rw [if_neg d0, if_neg d0]
              by_cases d1 : v4 = 1
              · rw [if_pos d1, if_pos d1]
                exact ⟨_, _, rfl, rfl, q3.trans p3.symm, kp⟩
              rw [if_neg d1, if_neg d1]
              by_cases d2 : v4 = 2
              · rw [if_pos d2, if_pos d2]
                exact ⟨_, _, rfl, rfl, q4.trans p4.symm, kp⟩
              rw [if_neg d2, if_neg d2]
              by_cases d3 : v4 = 3
              · rw [if_pos d3, if_pos d3, x_miss hI.2.1 (hG.c fx) b1 b2 q3 q4, ob, p3]
                obtain ⟨r1, Y1, y1, h1, l1⟩ := y_cor (S := Y) hz (fy.2 0) hI.2.1 b1
                rw [y1, ob]
                dsimp only
                rw [l1.i 4, p4]
                obtain ⟨r2, Y2, y2, h2, l2⟩ := y_cor (S := Y1) hz ((l1.a 0).trans (fy.2 0)) hI.2.1 b2
                rw [y2, ob]
                dsimp only
                have a1 : fA X' 16 q.1 = r1 := by rw [i_eq, h1]; exact (hG.c fx).1.2 _ b1
                have a2 : fA X' 16 q.2.1 = r2 := by rw [i_eq, h2]; exact (hG.c fx).1.2 _ b2
                exact ⟨_, _, rfl, rfl, (by rw [a1, a2]), hI.keep (px.tr fx.px) ((fy.py.tr l1.py).tr l2.py)⟩
              · rw [if_neg d3, if_neg d3]
                exact ⟨_, _, rfl, rfl, rfl, kp⟩
        · rw [if_neg c4, if_pos rfl, if_pos rfl, hy]
          exact ⟨_, _, rfl, rfl, rfl, hI⟩
    · rw [if_neg c2, if_pos rfl, if_pos rfl, hy]
      exact ⟨_, _, rfl, rfl, rfl, hI⟩
  · rw [if_neg c1, if_pos rfl, if_pos rfl, hy]
    exact ⟨_, _, rfl, rfl, rfl, hI⟩
/-- by how much two lines miss one another -/
def mss (a : Nat → Int32) (u : Int) (k l : Nat) : Option Int := match cr a k l with
  | none => none
  | some q => if q.2.2 ≤ u * u then some (if 0 ≤ cor a q.1 - cor a q.2.1 then cor a q.1 - cor a q.2.1 else -(cor a q.1 - cor a q.2.1)) else none
def mn (x y : Nat) : Nat := if x ≤ y then x else y
def mxx (x y : Nat) : Nat := if x ≤ y then y else x
def sm (a : Nat → Int32) (u : Int) (l : Nat) : Nat → Option Int
  | 0 => none
  | m + 1 => if m = l then sm a u l m else match mss a u (mn l m) (mxx l m) with
    | none => sm a u l m
    | some d => some ((sm a u l m).getD 0 + d)
theorem mss_b {a : Nat → Int32} (hW : WF a) {u : Int} {k l : Nat} {d : Int} (h : mss a u k l = some d) : 0 ≤ d ∧ d ≤ 20451 := by
  unfold mss at h
  cases hc : cr a k l with
  | none => rw [hc] at h; cases h
  | some q =>
    obtain ⟨b1, b2, b3, b4, b5, b6⟩ := cr_ok hW k l q hc
    have g1 := (cor_b hW b1).2 (fun w => by rw [← wtB_iff, b3] at w; cases w)
    have g2 := (cor_b hW b2).2 (fun w => by rw [← wtB_iff, b4] at w; cases w)
    rw [hc] at h
    dsimp only at h
    split at h
    · cases h; split <;> omega
    · cases h
theorem sm_b {a : Nat → Int32} (hW : WF a) {u : Int} {l : Nat} : ∀ (m : Nat) {s : Int}, sm a u l m = some s → 0 ≤ s ∧ s ≤ 20451 * m := by
  intro m
  induction m with
  | zero => intro s h; cases h
  | succ m ih =>
    intro s h
    unfold sm at h
    split at h
    · have := ih h; omega
    · cases hm : mss a u (mn l m) (mxx l m) with
      | none => rw [hm] at h; have := ih h; omega
      | some d =>
        have db := mss_b hW hm
        rw [hm] at h
        dsimp only at h
        cases hs : sm a u l m with
        | none => rw [hs] at h; cases h; show 0 ≤ 0 + d ∧ 0 + d ≤ _; omega
        | some t =>
          have := ih hs
          rw [hs] at h; cases h; show 0 ≤ t + d ∧ t + d ≤ _; omega
def ES (o : Option Int) (v : Int32) : Prop := (o = none ∧ v = -1) ∨ ∃ s, o = some s ∧ v.toInt = s
theorem Ghd.m {a : Nat → Int32} {S : St} (h : Ghd a S) (g : Nat → Int32) : Ghd a (sA S 39 g) := ⟨h.1.sA (by omega) g, fun l n h1 h2 h3 => by rw [fA_ne (by omega)]; exact h.2.1 l n h1 h2 h3, fun k hk => by rw [fA_ne (by omega)]; exact h.2.2 k hk⟩
theorem mss_none {a : Nat → Int32} {u : Int} {k l : Nat} (h : ∀ q, cr a k l = some q → u * u < q.2.2) : mss a u k l = none := by
  unfold mss
  cases hc : cr a k l with
  | none => rfl
  | some q => have := h q hc; dsimp only; rw [if_neg (by omega)]
theorem mss_some {a : Nat → Int32} {u : Int} {k l : Nat} {q : Nat × Nat × Int} (h : cr a k l = some q) (hu : q.2.2 ≤ u * u) : mss a u k l = some (if 0 ≤ cor a q.1 - cor a q.2.1 then cor a q.1 - cor a q.2.1 else -(cor a q.1 - cor a q.2.1)) := by
  unfold mss
  rw [h]; dsimp only; rw [if_pos hu]
theorem x_addMiss {a : Nat → Int32} (hW : WF a) {u : Int} {S : St} (hG : Ghd a S) {i j k p n : Nat} {d : Int} (hk : k < 20) (hn : n ≤ 20) (hi : i < ns a) (hj : j < ns a) (wi : wtB a i = false) (wj : wtB a j = false) (e1 : fI S 10 = nI i) (e2 : fI S 11 = nI j) (hd : d = if 0 ≤ cor a i - cor a j then cor a i - cor a j else -(cor a i - cor a j)) (hE : ES (sm a u p n) (fA S 39 k)) :
    ∃ v : Int32, mX3_addMiss (nI k) S = some (sA S 39 (upd (fA S 39) k v)) ∧ ES (some ((sm a u p n).getD 0 + d)) v := by
  have g1 := (cor_b hW hi).2 (fun w => by rw [← wtB_iff, wi] at w; cases w)
  have g2 := (cor_b hW hj).2 (fun w => by rw [← wtB_iff, wj] at w; cases w)
  have m1 := hG.1.2 i hi
  have m2 := hG.1.2 j hj
  have md : (fA S 16 i - fA S 16 j).toInt = cor a i - cor a j := by rw [ti_sub (by omega) (by omega), m1, m2]
  unfold mX3_addMiss mJ9_max mJ9_abs
  rw [rd_nI hk (by omega), ob]
  have base : ∃ b : Int32, (if (0 : Int32) < fA S 39 k then some (fA S 39 k) else some 0) = some b ∧ b.toInt = (sm a u p n).getD 0 ∧ 0 ≤ b.toInt ∧ b.toInt ≤ 20451 * n := by
    have z0 : (0 : Int32).toInt = 0 := rfl
    rcases hE with ⟨h1, h2⟩ | ⟨s, h1, h2⟩
    · rw [h2, if_neg (by decide)]
      exact ⟨0, rfl, by rw [h1]; rfl, by rw [z0]; omega, by rw [z0]; omega⟩
    · have sb := sm_b hW n h1
      by_cases c : (0 : Int32) < fA S 39 k
      · rw [if_pos c]
        exact ⟨_, rfl, by rw [h1]; exact h2, by omega, by omega⟩
      · rw [if_neg c]; rw [i_lt, z0] at c
        exact ⟨0, rfl, by rw [h1]; show _ = s; rw [z0]; omega, by rw [z0]; omega, by rw [z0]; omega⟩
  obtain ⟨b, eb, hb, b0, b1⟩ := base
  rw [eb, ob, x_miss hW hG hi hj e1 e2, ob]
  have ab : ∃ c : Int32, (if (0 : Int32) ≤ fA S 16 i - fA S 16 j then some (fA S 16 i - fA S 16 j) else some (-(fA S 16 i - fA S 16 j))) = some c ∧ c.toInt = d := by
    by_cases c : (0 : Int32) ≤ fA S 16 i - fA S 16 j
    · rw [if_pos c]; rw [ge0, md] at c
      exact ⟨_, rfl, by rw [md, hd, if_pos c]⟩
    · rw [if_neg c]; rw [ge0, md] at c
      refine ⟨_, rfl, ?_⟩
      rw [hd, if_neg c, Int32.toInt_neg, md]
      exact Int.bmod_eq_of_le (by omega) (by omega)
  obtain ⟨c, ec, hc⟩ := ab
  rw [ec, ob, wr_nI hk (by omega), ob]
  have db : 0 ≤ d ∧ d ≤ 20451 := by rw [hd]; split <;> omega
  exact ⟨b + c, rfl, Or.inr ⟨_, rfl, by rw [ti_add (by omega) (by omega), hb, hc]⟩⟩
def bd (nl p k l : Nat) : Nat := if p < k then nl else if p = k then l else if p < l then k + 1 else k
theorem sm_skip {a : Nat → Int32} {u : Int} {l : Nat} : sm a u l (l + 1) = sm a u l l := by
  conv => lhs; unfold sm
  rw [if_pos rfl]
theorem sm_non {a : Nat → Int32} {u : Int} {l m : Nat} (h : m ≠ l) (e : mss a u (mn l m) (mxx l m) = none) : sm a u l (m + 1) = sm a u l m := by
  conv => lhs; unfold sm
  rw [if_neg h, e]
theorem sm_som {a : Nat → Int32} {u : Int} {l m : Nat} {d : Int} (h : m ≠ l) (e : mss a u (mn l m) (mxx l m) = some d) : sm a u l (m + 1) = some ((sm a u l m).getD 0 + d) := by
  conv => lhs; unfold sm
  rw [if_neg h, e]
theorem mn1 {k l : Nat} (h : k < l) : mn k l = k ∧ mxx k l = l ∧ mn l k = k ∧ mxx l k = l := by
  unfold mn mxx
  rw [if_pos (by omega), if_pos (by omega), if_neg (by omega), if_neg (by omega)]; exact ⟨rfl, rfl, rfl, rfl⟩
def FrM (S S' : St) : Prop := (∀ j, j ≠ 10 → j ≠ 11 → j ≠ 12 → fI S' j = fI S j) ∧ ∀ j, j ≠ 39 → fA S' j = fA S j
theorem FrM.tr {S S' S'' : St} (h : FrM S S') (g : FrM S' S'') : FrM S S'' := ⟨fun j a b c => (g.1 j a b c).trans (h.1 j a b c), fun j a => (g.2 j a).trans (h.2 j a)⟩
theorem FrM.rf (S : St) : FrM S S := ⟨fun _ _ _ _ => rfl, fun _ _ => rfl⟩
theorem FrC.m {S S' : St} (h : FrC S S') : FrM S S' := ⟨h.1, fun j _ => h.2 j⟩
theorem x_miss1 {a : Nat → Int32} {z k : Nat} {u : Int32} (hz : 10000 ≤ z) (hW : WF a) (hk : k < nl a) (hu : 0 ≤ u.toInt ∧ u.toInt ≤ 400) {rc : Int32 → St → Option St} : ∀ (r l m : Nat) (S : St), l + r = nl a → k < l → r < m → Ghd a S → (∀ p, p < nl a → ES (sm a u.toInt p (bd (nl a) p k l)) (fA S 39 p)) →
    ∃ S' : St, mX3_addMisses_28 z rc u (nI k) m (nI l) S = rc (nI (k + 1)) S' ∧ Ghd a S' ∧ (∀ p, p < nl a → ES (sm a u.toInt p (bd (nl a) p k (nl a))) (fA S' 39 p)) ∧ FrM S S' := by
  obtain ⟨e0, hL⟩ := nl_nI hW
  intro r
  induction r with
  | zero =>
    intro l m S hl hkl hm hG hE
    obtain ⟨m, rfl⟩ : ∃ n', m = n' + 1 := ⟨m - 1, by omega⟩
    have : l = nl a := by omega
    subst this
    rw [mX3_addMisses_28]; unfold mX3_addMisses_28b
    rw [hG.1.1.1, e0, if_pos (by rw [leI (by omega) (by omega)]; omega), nI_1]
    exact ⟨S, rfl, hG, hE, FrM.rf S⟩
  | succ r ih =>
    intro l m S hl hkl hm hG hE
    obtain ⟨m, rfl⟩ : ∃ n', m = n' + 1 := ⟨m - 1, by omega⟩
    obtain ⟨n1, n2, n3, n4⟩ := mn1 hkl
    rw [mX3_addMisses_28]; unfold mX3_addMisses_28b
    obtain ⟨f, S1, e1, f1, hf⟩ := x_cfind (k := k) (l := l) hz hW (by omega) (by omega) hu hG
    rw [hG.1.1.1, e0, if_neg (by rw [leI (by omega) (by omega)]; omega), e1, ob, nI_1]
    dsimp only
    have hG1 := hG.c f1
    have bk : bd (nl a) k k l = l := by unfold bd; rw [if_neg (by omega), if_pos rfl]
    have bl : bd (nl a) l k l = k := by unfold bd; rw [if_neg (by omega), if_neg (by omega), if_neg (by omega)]
    have bk1 : bd (nl a) k k (l + 1) = l + 1 := by unfold bd; rw [if_neg (by omega), if_pos rfl]
    have bl1 : bd (nl a) l k (l + 1) = k + 1 := by unfold bd; rw [if_neg (by omega), if_neg (by omega), if_pos (by omega)]
    have bo : ∀ p, p ≠ k → p ≠ l → bd (nl a) p k (l + 1) = bd (nl a) p k l := fun p h1 h2 => by
      unfold bd
      by_cases c : p < k
      · rw [if_pos c, if_pos c]
      · rw [if_neg c, if_neg c, if_neg h1, if_neg h1]
        by_cases c2 : p < l
        · rw [if_pos c2, if_pos (by omega)]
        · rw [if_neg c2, if_neg (by omega)]
    rcases hf with ⟨f0, h⟩ | ⟨f0, q, q1, q2, q3, q4, q5⟩
    · rw [f0, if_pos rfl]
      have mn0 := mss_none h
      obtain ⟨S', x1, x2, x3, x4⟩ := ih (l + 1) m S1 (by omega) (by omega) (by omega) hG1 (fun p hp => by
        have hp' := hE p hp
        rw [f1.2 39]
        by_cases ck : p = k
        · subst ck
          rw [bk] at hp'
          rw [bk1, sm_non (by omega) (by rw [n1, n2]; exact mn0)]; exact hp'
        · by_cases cl : p = l
          · subst cl
            rw [bl] at hp'
            rw [bl1, sm_non (by omega) (by rw [n3, n4]; exact mn0)]; exact hp'
          · rw [bo p ck cl]; exact hp')
      exact ⟨S', x1, x2, x3, f1.m.tr x4⟩
    · rw [f0, if_neg one_ne]
      have ms0 := mss_some q1 q2
      obtain ⟨b1, b2, b3, b4, b5, b6⟩ := cr_ok hW k l q q1
      have Ek := hE k hk
      have El := hE l (by omega)
      rw [bk] at Ek
      rw [bl] at El
      obtain ⟨v, ev, hv⟩ := x_addMiss hW hG1 (k := k) (by omega) (show l ≤ 20 by omega) b1 b2 b3 b4 q3 q4 rfl (by rw [f1.2 39]; exact Ek)
      rw [ev, ob]
      have hG2 := hG1.m (upd (fA S1 39) k v)
      obtain ⟨w, ew, hw⟩ := x_addMiss hW hG2 (k := l) (by omega) (show k ≤ 20 by omega) b1 b2 b3 b4 q3 q4 rfl (by rw [fA_eq, up_n _ _ (by omega), f1.2 39]; exact El)
      rw [ew, ob]
      have hG3 := hG2.m (upd (fA (sA S1 39 (upd (fA S1 39) k v)) 39) l w)
      obtain ⟨S', x1, x2, x3, x4⟩ := ih (l + 1) m _ (by omega) (by omega) (by omega) hG3 (fun p hp => by
        have hp' := hE p hp
        rw [fA_eq, fA_eq]
        by_cases cl : p = l
        · subst cl
          rw [up_s, bl1, sm_som (by omega) (by rw [n3, n4]; exact ms0)]; exact hw
        · rw [up_n _ _ cl]
          by_cases ck : p = k
          · subst ck
            rw [up_s, bk1, sm_som (by omega) (by rw [n1, n2]; exact ms0)]; exact hv
          · rw [up_n _ _ ck, f1.2 39, bo p ck cl]; exact hp')
      refine ⟨S', x1, x2, x3, f1.m.tr (FrM.tr ?_ x4)⟩
      exact ⟨fun j _ _ _ => rfl, fun j h => by rw [fA_ne h, fA_ne h]⟩
theorem x_miss2 {a : Nat → Int32} {z : Nat} {u : Int32} (hz : 10000 ≤ z) (hW : WF a) (hu : 0 ≤ u.toInt ∧ u.toInt ≤ 400) : ∀ (r k m : Nat) (S : St), k + r = nl a → r < m → Ghd a S → (∀ p, p < nl a → ES (sm a u.toInt p (if p < k then nl a else k)) (fA S 39 p)) →
    ∃ S' : St, mX3_addMisses_10 z u m (nI k) S = some S' ∧ Ghd a S' ∧ (∀ p, p < nl a → ES (sm a u.toInt p (nl a)) (fA S' 39 p)) ∧ FrM S S' := by
  obtain ⟨e0, hL⟩ := nl_nI hW
  intro r
  induction r with
  | zero =>
    intro k m S hk hm hG hE
    obtain ⟨m, rfl⟩ : ∃ n', m = n' + 1 := ⟨m - 1, by omega⟩
    have : k = nl a := by omega
    subst this
    rw [mX3_addMisses_10]; unfold mX3_addMisses_10b
    rw [hG.1.1.1, e0, if_pos (by rw [leI (by omega) (by omega)]; omega)]
    exact ⟨S, rfl, hG, fun p hp => by have := hE p hp; rw [if_pos hp] at this; exact this, FrM.rf S⟩
  | succ r ih =>
    intro k m S hk hm hG hE
    obtain ⟨m, rfl⟩ : ∃ n', m = n' + 1 := ⟨m - 1, by omega⟩
    rw [mX3_addMisses_10]; unfold mX3_addMisses_10b
    rw [hG.1.1.1, e0, if_neg (by rw [leI (by omega) (by omega)]; omega), nI_1]
    obtain ⟨S1, x1, x2, x3, x4⟩ := x_miss1 (z := z) (k := k) hz hW (by omega) hu (rc := mX3_addMisses_10 z u m) r (k + 1) z S (by omega) (by omega) (by omega) hG (fun p hp => by
      have := hE p hp
      unfold bd
      by_cases c : p < k
      · rw [if_pos c] at this ⊢; exact this
      · rw [if_neg c] at this ⊢
        by_cases c2 : p = k
        · subst c2
          rw [if_pos rfl, sm_skip]; exact this
        · rw [if_neg c2, if_neg (by omega)]; exact this)
    rw [x1]
    obtain ⟨S', y1, y2, y3, y4⟩ := ih (k + 1) m S1 (by omega) (by omega) x2 (fun p hp => by
      have := x3 p hp
      unfold bd at this
      by_cases c : p < k
      · rw [if_pos c] at this
        rw [if_pos (by omega)]; exact this
      · rw [if_neg c] at this
        by_cases c2 : p = k
        · rw [if_pos c2] at this
          rw [if_pos (by omega)]; exact this
        · rw [if_neg c2, if_pos hp] at this
          rw [if_neg (by omega)]; exact this)
    exact ⟨S', y1, y2, y3, x4.tr y4⟩
