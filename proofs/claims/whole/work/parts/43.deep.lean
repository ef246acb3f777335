/-! PURE: deepest, way, narrow -/
def FrW (S S' : St) : Prop := (∀ j, j ≠ 15 → j ≠ 16 → j ≠ 17 → fI S' j = fI S j) ∧ ∀ j, j ≠ 45 → j ≠ 46 → j ≠ 47 → fA S' j = fA S j
theorem FrW.tr {S S' S'' : St} (h : FrW S S') (g : FrW S' S'') : FrW S S'' := ⟨fun j a b c => (g.1 j a b c).trans (h.1 j a b c), fun j a b c => (g.2 j a b c).trans (h.2 j a b c)⟩
theorem FrX.w {S S' : St} (h : FrX S S') : FrW S S' := ⟨fun j a _ _ => h.1 j a, fun j a b _ => h.2 j a b⟩
theorem FrW.px {S S' : St} (h : FrW S S') : PX S S' := ⟨fun k hk => h.1 k (by omega) (by omega) (by omega), fun k _ _ hk => h.2 k (by omega) (by omega) (by omega)⟩
theorem x_walk1 {D : Nat → Int} {t : Int} {g p s z : Nat} (hz : 10000 ≤ z) (hg : g < 256) (hp : p < 256) (hs : bf D t g p = nI s) (s256 : s < 256) : ∀ (r i n : Nat) (x : Int32) (S : St), i + r = s + 1 → r < n → (i ≤ s → x = nI (pth (bf D t g) p i)) → (∀ q, q < 256 → fA S 45 q = bf D t g q) → fI S 16 = nI i → (∀ j, j < i → fA S 47 j = nI (pth (bf D t g) p j)) →
    ∃ S', mX1_walk_9 z (nI p) n x (nI i) S = some S' ∧ fI S' 16 = nI (s + 1) ∧ (∀ j, j < s + 1 → fA S' 47 j = nI (pth (bf D t g) p j)) ∧ (∀ j, j ≠ 16 → fI S' j = fI S j) ∧ ∀ j, j ≠ 47 → fA S' j = fA S j := by
  intro r
  induction r with
  | zero =>
    intro i n x S hi hn hx h45 h16 h47
    obtain ⟨n, rfl⟩ : ∃ n', n = n' + 1 := ⟨n - 1, by omega⟩
    have : i = s + 1 := by omega
    subst this
    rw [mX1_walk_9]; unfold mX1_walk_9b
    refine ⟨S, ?_, h16, h47, fun _ _ => rfl, fun _ _ => rfl⟩
    by_cases c : (256 : Int32) ≤ nI (s + 1)
    · rw [if_pos c]
    · rw [if_neg c, rd_nI hp (by omega), ob, h45 p hp, hs, if_pos]
      rw [lt0, ti_sub (by rw [nI_ti (by omega), nI_ti (by omega)]; omega) (by rw [nI_ti (by omega), nI_ti (by omega)]; omega), nI_ti (by omega), nI_ti (by omega)]
      omega
  | succ r ih =>
    intro i n x S hi hn hx h45 h16 h47
    obtain ⟨n, rfl⟩ : ∃ n', n = n' + 1 := ⟨n - 1, by omega⟩
    obtain ⟨o1, o2, o3⟩ := pth_ok hg hp hs s256 i (by omega)
    have ex := hx (by omega)
    subst ex
    rw [mX1_walk_9]; unfold mX1_walk_9b
    rw [show (256 : Int32) = nI 256 from rfl, if_neg (by rw [leI (by omega) (by omega)]; omega), rd_nI hp (by omega), ob, h45 p hp, hs, nI_sub (by omega)]
    rw [if_neg (by rw [lt0, nI_ti (by omega)]; omega), h16, wr_nI (by omega) (by omega), ob, nI_1]
    have f16 : fI (sA S 47 (upd (fA S 47) i (nI (pth (bf D t g) p i)))) 16 + 1 = nI (i + 1) := by rw [fI_sA, h16, nI_1]
    rw [f16]
    have h45' : ∀ q, q < 256 → fA (sI (sA S 47 (upd (fA S 47) i (nI (pth (bf D t g) p i)))) 16 (nI (i + 1))) 45 q = bf D t g q := fun q hq => by rw [fA_sI, fA_ne (by omega)]; exact h45 q hq
    rw [rd_nI hp (by omega), ob, h45' p hp, hs, nI_sub (by omega)]
    unfold mX1_leastBeside
    have lb := x_lb1 (z := z) (want := nI (s - i) - 1) h45' o1 4 0 z (by omega) (by omega) rfl
    rw [show (0 : Int32) = nI 0 from rfl, lb, ob]
    obtain ⟨S', x1, x2, x3, x4, x5⟩ := ih (i + 1) n (if (nI (s - i) - 1).toInt < 0 then nI (pth (bf D t g) p i) else nI (nxt (bf D t g) (nI (s - i) - 1) (pth (bf D t g) p i))) _ (by omega) (by omega) (fun hl => by
      rw [if_neg (by rw [show (1 : Int32) = nI 1 from rfl, nI_sub (by omega), nI_ti (by omega)]; omega)]
      show _ = nI (nxt (bf D t g) (bf D t g (pth (bf D t g) p i) - 1) (pth (bf D t g) p i))
      rw [o2]) h45' (by rw [fI_sI, if_pos rfl]) (fun j hj => by
        rw [fA_sI, fA_eq, up_e]
        by_cases e : j = i
        · rw [if_pos e, e]
        · rw [if_neg e]; exact h47 j (by omega))
    exact ⟨S', x1, x2, x3, fun j hj => by rw [x4 j hj, fI_sI, if_neg hj, fI_sA], fun j hj => by rw [x5 j hj, fA_sI, fA_ne hj]⟩
/-- what the class finds of a channel -/
def Fnd (D : Nat → Int) (g p : Nat) (f : Int32) (S : St) : Prop := (f = 0 ∧ ¬ Cn D (-30000) g p) ∨ (f = 1 ∧ isF D g p (fI S 17).toInt ∧ ∃ s, s < 256 ∧ bf D (fI S 17).toInt g p = nI s ∧ fI S 16 = nI (s + 1) ∧ ∀ j, j < s + 1 → fA S 47 j = nI (pth (bf D (fI S 17).toInt g) p j))
theorem x_find {D : Nat → Int} {z g p : Nat} (hz : 10000 ≤ z) (hg : g < 256) (hp : p < 256) (hB : ∀ q, D q = -30000 ∨ (-251 ≤ D q ∧ D q ≤ 20200)) {S : St} (hD : ∀ q, q < 256 → (fA S 44 q).toInt = D q) :
    ∃ (f : Int32) (S' : St), mX1_find z (nI p) (nI g) S = some (f, S') ∧ Fnd D g p f S' ∧ FrW S S' := by
  unfold mX1_find
  obtain ⟨S1, e1, f1⟩ := x_joins hz hg hp hD (-30000)
  rw [e1, ob]
  dsimp only
  have z3 : (-30000 : Int32).toInt = -30000 := rfl
  rcases got_iff (D := D) hg hp (-30000 : Int32).toInt with ⟨g0, nc⟩ | ⟨g1, cc⟩
  · rw [g0, if_pos rfl]
    exact ⟨_, _, rfl, Or.inl ⟨rfl, nc⟩, f1.w⟩
  · rw [g1, if_neg one_ne]
    have hD1 : ∀ q, q < 256 → (fA S1 44 q).toInt = D q := fun q hq => by rw [f1.2 44 (by omega) (by omega)]; exact hD q hq
    obtain ⟨F, S2, e2, hF, f2⟩ := x_floor hz hg hp hB hD1 cc
    rw [e2, ob]
    dsimp only
    have hD2 : ∀ q, q < 256 → (fA (sI S2 17 F) 44 q).toInt = D q := fun q hq => by rw [fA_sI, f2.2 44 (by omega) (by omega)]; exact hD1 q hq
    have f17 : fI (sI S2 17 F) 17 = F := by rw [fI_sI, if_pos rfl]
    rw [f17]
    obtain ⟨S3, e3, h3, f3⟩ := x_flood hz hg hD2 F
    rw [e3, ob]
    have rc := ((bf_ok (D := D) (t := F.toInt) hg).1 p hp).mpr hF.1
    obtain ⟨s, es, hs⟩ : ∃ s : Nat, bf D F.toInt g p = nI s ∧ s < 256 := by
      rcases (bf_ok (D := D) (t := F.toInt) hg).2.1 p hp with c | c
      · exact absurd c rc
      · obtain ⟨k, k1, k2⟩ := i_ex c.1
        exact ⟨k, k1, by omega⟩
    unfold mX1_walk
    obtain ⟨S4, e4, w1, w2, w3, w4⟩ := x_walk1 (z := z) hz hg hp es hs (s + 1) 0 z (nI p) (sI S3 16 0) (by omega) (by omega) (fun _ => rfl) (fun q hq => by rw [fA_sI]; exact h3 q hq) (by rw [fI_sI, if_pos rfl]; rfl) (fun j hj => by omega)
    rw [show (0 : Int32) = nI 0 from rfl] at e4 ⊢
    rw [e4, ob]
    have k17 : fI S4 17 = F := by rw [w3 17 (by omega), fI_sI, if_neg (by omega), f3.1 17 (by omega), f17]
    refine ⟨_, _, rfl, Or.inr ⟨rfl, ?_⟩, ?_⟩
    · rw [k17]; exact ⟨hF, s, hs, es, w1, w2⟩
    · refine (f1.tr f2).w.tr (FrW.tr (S' := sI S2 17 F) ⟨fun j _ _ h => by rw [fI_sI, if_neg h], fun j _ _ _ => rfl⟩ (f3.w.tr ⟨fun j _ h _ => ?_, fun j _ _ h => ?_⟩))
      · rw [w3 j h, fI_sI, if_neg h]
      · rw [w4 j h, fA_sI]
theorem Fnd.cases {D : Nat → Int} {g p : Nat} {f : Int32} {S : St} (h : Fnd D g p f S) : f = 0 ∨ f = 1 := by
  rcases h with h | h
  · exact Or.inl h.1
  · exact Or.inr h.1
theorem dep_B {a : Nat → Int32} (hW : WF a) (d : Int) : ∀ q, dep a d q = -30000 ∨ (-251 ≤ dep a d q ∧ dep a d q ≤ 20200) := fun q => dep_b hW d q
/-- both sides of a question about a channel -/
theorem chan_both {Sx Sy : St} {z : Nat} (hz : 10000 ≤ z) (hI : Inv Sx Sy) (v1 v2 v3 : Int32) :
    (¬ asked v1 v2 v3 ∧ mX9_findChannel z v1 v2 v3 Sx = some (0, Sx)) ∨
    (asked v1 v2 v3 ∧ ∃ (g p : Nat) (f c : Int32) (X Y : St), v2 = nI p ∧ v3 = nI g ∧ g < 256 ∧ p < 256 ∧ mX9_findChannel z v1 v2 v3 Sx = some (f, X) ∧ mX10_channel z v1 v2 v3 Sy = some (c, Y) ∧ PX Sx X ∧ PY Sy Y ∧ (∀ q, q < 256 → (fA X 44 q).toInt = dep (fA Sy 0) v1.toInt q) ∧ (∀ q, q < 256 → (fA Y 5 q).toInt = dep (fA Sy 0) v1.toInt q) ∧
      ((f = 0 ∧ c = -30000) ∨ (f = 1 ∧ c.toInt ≠ -30000 ∧ fI X 17 = c ∧ isF (dep (fA Sy 0) v1.toInt) g p c.toInt ∧ (∀ q, q < 256 → fA Y 6 q = bf (dep (fA Sy 0) v1.toInt) c.toInt g q) ∧ ∃ s, s < 256 ∧ bf (dep (fA Sy 0) v1.toInt) c.toInt g p = nI s ∧ fI X 16 = nI (s + 1) ∧ ∀ j, j < s + 1 → fA X 47 j = nI (pth (bf (dep (fA Sy 0) v1.toInt) c.toInt g) p j)))) := by
  unfold mX9_findChannel
  rw [x_day, ob]
  by_cases c1 : 0 ≤ v1.toInt ∧ v1.toInt ≤ 99
  · rw [if_pos c1, if_neg one_ne, x_sq, ob]
    by_cases c2 : 0 ≤ v2.toInt ∧ v2.toInt ≤ 255
    · rw [if_pos c2, if_neg one_ne, x_sq, ob]
      by_cases c3 : 0 ≤ v3.toInt ∧ v3.toInt ≤ 255
      · rw [if_pos c3, if_neg one_ne]
        refine Or.inr ⟨⟨c1, c2, c3⟩, ?_⟩
        obtain ⟨p, rfl, hp⟩ := i_ex c2.1
        obtain ⟨g, rfl, hg⟩ := i_ex c3.1
        obtain ⟨X, ex, i1, a1, d1⟩ := x_draw hz hI.2.1 hI.1 v1
        obtain ⟨c, Y, ey, py, d2, hy⟩ := y_chan (S := Sy) (g := g) (p := p) hz (by omega) (by omega) hI.2.1 v1 rfl
        obtain ⟨f, X', ex', hf, fw⟩ := x_find (g := g) (p := p) hz (by omega) (by omega) (dep_B hI.2.1 v1.toInt) d1
        have zf : zb f (f, X') = some (f, X') := by rcases hf.cases with e | e <;> rw [e] <;> rfl
        rw [ex, ob, ex', ob]
        refine ⟨g, p, f, c, X', Y, rfl, rfl, by omega, by omega, zf, ey, (px_of i1 a1).tr fw.px, py, fun q hq => by rw [fw.2 44 (by omega) (by omega) (by omega)]; exact d1 q hq, d2, ?_⟩
        rcases hf with ⟨f0, n0⟩ | ⟨f1, hF, s, s1, s2, s3, s4⟩
        · rcases hy with ⟨c0, -⟩ | ⟨-, k1, -⟩
          · exact Or.inl ⟨f0, c0⟩
          · exact absurd (k1.1.mono (by omega) (fun q hq o => ⟨o.1, by have := dep_B hI.2.1 v1.toInt q; have := o.1; omega⟩)) n0
        · rcases hy with ⟨-, n0⟩ | ⟨k0, k1, k2⟩
          · exact absurd (hF.1.mono (by omega) (fun q hq o => ⟨o.1, by have := dep_B hI.2.1 v1.toInt q; have := o.1; omega⟩)) n0
          · have e := isF_uniq (by omega) hF k1
            have e' : fI X' 17 = c := by rw [i_eq]; exact e
            rw [e] at s2 s4
            exact Or.inr ⟨f1, k0, e', k1, k2, s, s1, s2, s3, s4⟩
      · rw [if_neg c3, if_pos rfl]
        exact Or.inl ⟨fun h => c3 h.2.2, rfl⟩
    · rw [if_neg c2, if_pos rfl]
      exact Or.inl ⟨fun h => c2 h.2.1, rfl⟩
  · rw [if_neg c1, if_pos rfl]
    exact Or.inl ⟨fun h => c1 h.1, rfl⟩
theorem p_deepest {z : Nat} (hz : 10000 ≤ z) : ok_deepest z Inv := by
  intro Sx Sy v1 v2 v3 hI
  unfold mX9_deepest mX10_deepest
  rcases chan_both hz hI v1 v2 v3 with ⟨h0, e⟩ | ⟨h1, g, p, f, c, X, Y, -, -, -, -, ex, ey, px, py, -, -, h⟩
  · rw [e, ob, if_pos rfl, y_asked0 Sy h0, ob, if_pos rfl]
    exact ⟨_, _, rfl, rfl, rfl, hI⟩
  · rw [ex, ob, y_asked1 Sy h1, ob, if_neg one_ne, ey, ob]
    dsimp only
    have kp := hI.keep px py
    rcases h with ⟨f0, c0⟩ | ⟨f1, -, e, -⟩
    · rw [f0, if_pos rfl, c0]
      exact ⟨_, _, rfl, rfl, rfl, kp⟩
    · rw [f1, if_neg one_ne]
      exact ⟨_, _, rfl, rfl, e, kp⟩
theorem y_way1 {D : Nat → Int} {t : Int} {g p s z : Nat} (hz : 10000 ≤ z) {S : St} (hS : ∀ q, q < 256 → fA S 6 q = bf D t g q) (hg : g < 256) (hp : p < 256) (hs : bf D t g p = nI s) (s256 : s < 256) {m : Nat} (hm : m ≤ s) : ∀ (r i n : Nat), i + r = m → r < n → mX10_way_47 z (nI m) n (nI (pth (bf D t g) p i)) (nI i) S = some (nI (pth (bf D t g) p m), S) := by
  intro r
  induction r with
  | zero =>
    intro i n hi hn
    obtain ⟨n, rfl⟩ : ∃ n', n = n' + 1 := ⟨n - 1, by omega⟩
    have : i = m := by omega
    subst this
    rw [mX10_way_47]; unfold mX10_way_47b
    rw [if_pos (by rw [leI (by omega) (by omega)]; omega)]
  | succ r ih =>
    intro i n hi hn
    obtain ⟨n, rfl⟩ : ∃ n', n = n' + 1 := ⟨n - 1, by omega⟩
    rw [mX10_way_47]; unfold mX10_way_47b
    rw [if_neg (by rw [leI (by omega) (by omega)]; omega), y_next hz hS hg hp hs s256 (by omega), ob, nI_1]
    exact ih (i + 1) n (by omega) (by omega)
theorem p_way {z : Nat} (hz : 10000 ≤ z) : ok_way z Inv := by
  intro Sx Sy v1 v2 v3 v4 hI
  unfold mX9_way mX10_way
  rcases chan_both hz hI v1 v2 v3 with ⟨h0, e⟩ | ⟨h1, g, p, f, c, X, Y, rfl, rfl, hg, hp, ex, ey, px, py, dx, dy, h⟩
  · rw [e, ob, if_pos rfl, y_asked0 Sy h0, ob, if_pos rfl]
    exact ⟨_, _, rfl, rfl, rfl, hI⟩
  · have kp := hI.keep px py
    have kq := hI.keep px (PY.rf Sy)
    rw [ex, ob, y_asked1 Sy h1, ob, if_neg one_ne]
    dsimp only
    by_cases c4 : v4 < 0
    · rw [if_pos (c := v4 < 0) c4, if_pos (c := v4 < 0) c4]
      by_cases f0 : f = 0
      · rw [if_pos f0]; exact ⟨_, _, rfl, rfl, rfl, kq⟩
      · rw [if_neg f0]; exact ⟨_, _, rfl, rfl, rfl, kq⟩
    · rw [if_neg (c := v4 < 0) c4, if_neg (c := v4 < 0) c4, ey, ob]
      dsimp only
      rcases h with ⟨f0, c0⟩ | ⟨f1, cn, e17, iF, h6, s, s1, s2, s3, s4⟩
      · rw [f0, if_pos rfl, if_pos c0]
        exact ⟨_, _, rfl, rfl, rfl, kp⟩
      · rw [f1, if_neg one_ne, if_neg (c := c = -30000) (fun h => cn (by rw [h]; rfl)), rd_nI hp (by omega), ob, h6 p hp, s2, s3]
        rw [lt0] at c4
        obtain ⟨m, rfl, hm⟩ := i_ex (x := v4) (by omega)
        have mb := i_hi (nI m)
        have l1 : nI (s + 1) ≤ nI m ↔ s + 1 ≤ m := leI (by omega) (by omega)
        have l2 : nI m ≤ nI s ↔ m ≤ s := leI (by omega) (by omega)
        by_cases cm : m ≤ s
        · rw [if_neg (fun h => by have := l1.mp h; omega), if_pos (l2.mpr cm), rd_nI (by omega) (by omega), ob]
          have yw := y_way1 (z := z) hz h6 hg hp s2 s1 cm m 0 z (by omega) (by omega)
          exact ⟨_, _, rfl, yw, s4 m (by omega), kp⟩
        · rw [if_pos (l1.mpr (by omega)), if_neg (fun h => cm (l2.mp h))]
          exact ⟨_, _, rfl, rfl, rfl, kp⟩
theorem nar_ex {D : Nat → Int} {F : Int} {g p s : Nat} (hg : g < 256) (hp : p < 256) (hF : isF D g p F) (hs : bf D F g p = nI s) (s256 : s < 256) : ∃ j, j ≤ s ∧ D (pth (bf D F g) p j) = F := by
  refine Classical.byContradiction (fun hn => hF.2 ?_)
  have ok : ∀ i, i ≤ s → okD D (F + 1) (pth (bf D F g) p i) := fun i hi => by
    obtain ⟨o1, o2, -⟩ := pth_ok hg hp hs s256 i hi
    have cn := ((bf_ok (D := D) (t := F) hg).1 _ o1).mp (by rw [o2]; exact nI_m1 (by omega))
    have o := cn.ok
    have ne : D (pth (bf D F g) p i) ≠ F := fun e => hn ⟨i, hi, e⟩
    exact ⟨o.1, by have := o.2; omega⟩
  have all : ∀ r, r ≤ s → Cn D (F + 1) g (pth (bf D F g) p (s - r)) := by
    intro r
    induction r with
    | zero =>
      intro _
      obtain ⟨o1, o2, -⟩ := pth_ok hg hp hs s256 s (Nat.le_refl _)
      have e : pth (bf D F g) p s = g := by
        rcases (bf_ok (D := D) (t := F) hg).2.2 _ o1 (by rw [o2]; exact nI_m1 (by omega)) with ⟨-, e⟩ | ⟨e, -⟩
        · exact e
        · rw [o2, nI_ti (by omega)] at e; omega
      have := ok s (Nat.le_refl _)
      show Cn D (F + 1) g (pth (bf D F g) p s)
      rw [e] at this ⊢
      exact .rf this
    | succ r ih =>
      intro hr
      obtain ⟨o1, o2, o3⟩ := pth_ok hg hp hs s256 (s - (r + 1)) (by omega)
      obtain ⟨-, k, k1, k2⟩ := o3 (by omega)
      have c := ih (by omega)
      rw [show s - (r + 1) + 1 = s - r by omega] at k2
      obtain ⟨j, j1, j2⟩ := nb_sym o1 k1 k2
      exact c.st j1 j2 (ok _ (by omega))
  have := all s (Nat.le_refl _)
  rw [Nat.sub_self] at this
  exact this
theorem nar_both {D : Nat → Int} {c : Int32} {g p s z : Nat} (hz : 10000 ≤ z) {X Y : St} (hg : g < 256) (hp : p < 256) (hs : bf D c.toInt g p = nI s) (s256 : s < 256) (h6 : ∀ q, q < 256 → fA Y 6 q = bf D c.toInt g q) (dx : ∀ q, q < 256 → (fA X 44 q).toInt = D q) (dy : ∀ q, q < 256 → (fA Y 5 q).toInt = D q) (x16 : fI X 16 = nI (s + 1)) (x17 : fI X 17 = c) (x47 : ∀ j, j < s + 1 → fA X 47 j = nI (pth (bf D c.toInt g) p j)) :
    ∀ (r i n m : Nat), i + r = s → r < n → r < m → (∃ j, i ≤ j ∧ j ≤ s ∧ D (pth (bf D c.toInt g) p j) = c.toInt) → ∃ v : Int32, mX1_firstAtFloor_2 z X n (nI i) = some v ∧ mX10_narrow_34 z c m (nI (pth (bf D c.toInt g) p i)) Y = some (v, Y) := by
  intro r
  induction r with
  | zero =>
    intro i n m hi hn hm ⟨j, j1, j2, j3⟩
    obtain ⟨n, rfl⟩ : ∃ n', n = n' + 1 := ⟨n - 1, by omega⟩
    obtain ⟨m, rfl⟩ : ∃ n', m = n' + 1 := ⟨m - 1, by omega⟩
    have : j = i := by omega
    subst this
    obtain ⟨o1, -, -⟩ := pth_ok hg hp hs s256 j (by omega)
    refine ⟨nI (pth (bf D c.toInt g) p j), ?_, ?_⟩
    · rw [mX1_firstAtFloor_2]; unfold mX1_firstAtFloor_2b mX1_firstAtFloor_31
      rw [x16, if_neg (by rw [leI (by omega) (by omega)]; omega), rd_nI (by omega) (by omega), ob, x47 j (by omega), rd_nI o1 (by omega), ob, x17, if_pos (by rw [i_eq, dx _ o1]; exact j3), ob]
    · rw [mX10_narrow_34]; unfold mX10_narrow_34b
      rw [rd_nI o1 (by omega), ob, if_pos (by rw [i_eq, dy _ o1]; exact j3)]
  | succ r ih =>
    intro i n m hi hn hm ⟨j, j1, j2, j3⟩
    obtain ⟨n, rfl⟩ : ∃ n', n = n' + 1 := ⟨n - 1, by omega⟩
    obtain ⟨m, rfl⟩ : ∃ n', m = n' + 1 := ⟨m - 1, by omega⟩
    obtain ⟨o1, -, -⟩ := pth_ok hg hp hs s256 i (by omega)
    rw [mX1_firstAtFloor_2, mX10_narrow_34]; unfold mX1_firstAtFloor_2b mX10_narrow_34b
    rw [x16, if_neg (by rw [leI (by omega) (by omega)]; omega), rd_nI (by omega) (by omega), ob, x47 i (by omega), rd_nI o1 (by omega), ob, x17, rd_nI o1 (by omega), ob, nI_1]
    by_cases cF : D (pth (bf D c.toInt g) p i) = c.toInt
    · rw [if_pos (by rw [i_eq, dx _ o1]; exact cF), if_pos (by rw [i_eq, dy _ o1]; exact cF)]
      unfold mX1_firstAtFloor_31
      rw [rd_nI (by omega) (by omega), ob, x47 i (by omega)]
      exact ⟨_, rfl, rfl⟩
    · rw [if_neg (by rw [i_eq, dx _ o1]; exact cF), if_neg (by rw [i_eq, dy _ o1]; exact cF), y_next hz h6 hg hp hs s256 (by omega), ob]
      refine ih (i + 1) n m (by omega) (by omega) (by omega) ⟨j, ?_, j2, j3⟩
      have : j ≠ i := fun e => cF (by rw [← e]; exact j3)
      omega
theorem p_narrow {z : Nat} (hz : 10000 ≤ z) : ok_narrow z Inv := by
  intro Sx Sy v1 v2 v3 hI
  unfold mX9_narrow mX10_narrow
  rcases chan_both hz hI v1 v2 v3 with ⟨h0, e⟩ | ⟨h1, g, p, f, c, X, Y, rfl, rfl, hg, hp, ex, ey, px, py, dx, dy, h⟩
  · rw [e, ob, if_pos rfl, y_asked0 Sy h0, ob, if_pos rfl]
    exact ⟨_, _, rfl, rfl, rfl, hI⟩
  · have kp := hI.keep px py
    rw [ex, ob, y_asked1 Sy h1, ob, if_neg one_ne, ey, ob]
    dsimp only
    rcases h with ⟨f0, c0⟩ | ⟨f1, cn, e17, iF, h6, s, s1, s2, s3, s4⟩
    · rw [f0, if_pos rfl, if_pos c0]
      exact ⟨_, _, rfl, rfl, rfl, kp⟩
    · rw [f1, if_neg one_ne, if_neg (fun h => cn (by rw [h]; rfl))]
      obtain ⟨j, j1, j2⟩ := nar_ex hg hp iF s2 s1
      obtain ⟨v, w1, w2⟩ := nar_both (z := z) hz hg hp s2 s1 h6 dx dy s3 e17 s4 s 0 z z (by omega) (by omega) (by omega) ⟨j, by omega, j1, j2⟩
      have w1' : mX1_firstAtFloor z X = some v := w1
      rw [w1', ob]
      exact ⟨_, _, rfl, w2, rfl, kp⟩
