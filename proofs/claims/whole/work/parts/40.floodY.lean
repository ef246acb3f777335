/-! PURE: the reference's flood -/
def FY (D : Nat → Int) (S : St) (B : Bs) : Prop := (∀ q, q < 256 → (fA S 5 q).toInt = D q) ∧ (∀ q, q < 256 → fA S 6 q = B.1 q) ∧ (∀ i, i < B.2.2 → fA S 7 i = B.2.1 i)
def FrY (S S' : St) : Prop := S'.1 = S.1 ∧ ∀ j, j ≠ 6 → j ≠ 7 → fA S' j = fA S j
theorem FrY.rf (S : St) : FrY S S := ⟨rfl, fun _ _ _ => rfl⟩
theorem FrY.tr {S S' S'' : St} (h : FrY S S') (g : FrY S' S'') : FrY S S'' := ⟨g.1.trans h.1, fun j a b => (g.2 j a b).trans (h.2 j a b)⟩
theorem st_neg {D : Nat → Int} {t : Int} {g : Nat} {B : Bs} (H : BI D t g B) {q : Nat} (hq : q < 256) : B.1 q = -1 ∨ 0 ≤ (B.1 q).toInt := by
  by_cases c : B.1 q = -1
  · exact Or.inl c
  · obtain ⟨i, i1, i2⟩ := H.2.2.1 q hq c
    obtain ⟨p, p1, p2, p3, p4⟩ := H.2.1 i i1
    have : nI q = nI p := i2.symm.trans p2
    rw [nI_eq (by omega) (by omega)] at this
    subst this
    exact Or.inr p3
theorem ge0 (x : Int32) : (0 : Int32) ≤ x ↔ 0 ≤ x.toInt := by rw [i_le]; rfl
theorem lt0 (x : Int32) : x < (0 : Int32) ↔ x.toInt < 0 := by rw [i_lt]; rfl
theorem m1i : (-1 : Int32).toInt = -1 := rfl
theorem y_side {D : Nat → Int} {z g v k n : Nat} {S : St} {B : Bs} {s t v5 : Int32} {rc : Int32 → Int32 → St → Option (Int32 × St)} (H : BI D t.toInt g B) (hF : FY D S B) (hv : v < 256) (hk : k < 4) :
    ∃ S', mX10_floods_88 z rc s t v5 (nI v) (n + 1) (nI B.2.2) (nI k) S = mX10_floods_88 z rc s t v5 (nI v) n (nI (on1 D t.toInt v k B).2.2) (nI (k + 1)) S' ∧ FY D S' (on1 D t.toInt v k B) ∧ FrY S S' := by
  obtain ⟨f1, f2, f3⟩ := hF
  rw [mX10_floods_88]; unfold mX10_floods_88b
  rw [show (4 : Int32) = nI 4 from rfl, if_neg (by rw [leI (by omega) (by omega)]; omega), y_beside S hv hk, ob]
  unfold nbI
  cases hn : nb v k with
  | none =>
    dsimp only
    rw [if_pos (by decide), nI_1, on1_none hn]
    exact ⟨S, rfl, ⟨f1, f2, f3⟩, FrY.rf S⟩
  | some w =>
    dsimp only
    have hw := (nb_lt hv hn).1
    have dw := f1 w hw
    rw [if_neg (by rw [lt0, nI_ti (by omega)]; omega), rd_nI hw (by omega), ob, f2 w hw, nI_1, on1_some hn]
    rcases st_neg H hw with c | c
    · rw [if_neg (c := 0 ≤ B.1 w) (by rw [ge0, c, m1i]; omega), rd_nI hw (by omega), ob]
      by_cases c2 : fA S 5 w = (-30000)
      · rw [if_pos c2, if_neg (fun h => h.2.1 ((unkD dw).mp c2))]
        exact ⟨S, rfl, ⟨f1, f2, f3⟩, FrY.rf S⟩
      · rw [if_neg c2, ob]
        by_cases c3 : t ≤ fA S 5 w
        · have hc := BI_room H hw c
          rw [if_pos c3, if_pos ⟨c, fun h => c2 ((unkD dw).mpr h), by rw [i_le, dw] at c3; omega⟩]
          rw [rd_nI hv (by omega), ob, f2 v hv, wr_nI hw (by omega), ob, wr_nI hc (by omega), ob, nI_1]
          refine ⟨_, rfl, ⟨fun q hq => ?_, fun q hq => ?_, fun i hi => ?_⟩, rfl, fun j h1 h2 => ?_⟩
          · rw [fA_ne (by omega), fA_ne (by omega)]; exact f1 q hq
          · rw [fA_ne (by omega), fA_eq]
            show upd (fA S 6) w _ q = upd B.1 w _ q
            rw [up_e, up_e]
            by_cases e : q = w
            · rw [if_pos e, if_pos e]
            · rw [if_neg e, if_neg e]; exact f2 q hq
          · rw [fA_eq, fA_ne (by omega)]
            show upd (fA S 7) B.2.2 (nI w) i = upd B.2.1 B.2.2 (nI w) i
            rw [up_e, up_e]
            by_cases e : i = B.2.2
            · rw [if_pos e, if_pos e]
            · rw [if_neg e, if_neg e]
              have hi' : i < B.2.2 + 1 := hi
              exact f3 i (by omega)
          · rw [fA_ne h2, fA_ne h1]
        · rw [if_neg c3, if_neg (fun h => c3 (by rw [i_le, dw]; exact h.2.2))]
          exact ⟨S, rfl, ⟨f1, f2, f3⟩, FrY.rf S⟩
    · rw [if_pos (c := 0 ≤ B.1 w) (by rw [ge0]; exact c), if_neg (fun h => by rw [h.1, m1i] at c; omega)]
      exact ⟨S, rfl, ⟨f1, f2, f3⟩, FrY.rf S⟩
theorem y_four {D : Nat → Int} {z g h v : Nat} (hz : 10000 ≤ z) {S : St} {B : Bs} {s t v5 : Int32} {rc : Int32 → Int32 → St → Option (Int32 × St)} (H : BI D t.toInt g B) (hF : FY D S B) (hh : h < B.2.2) (hv : v < 256) (ev : B.2.1 h = nI v) :
    ∃ S', mX10_floods_88 z rc s t v5 (nI v) z (nI B.2.2) 0 S = rc (nI (four D t.toInt v B).2.2) (v5 + 1) S' ∧ FY D S' (four D t.toInt v B) ∧ FrY S S' := by
  obtain ⟨n, rfl⟩ : ∃ n, z = n + 5 := ⟨z - 5, by omega⟩
  obtain ⟨a1, b1, c1, d1⟩ := BI_one (k := 0) H hh hv ev (by omega) (fun j w hj => by omega)
  obtain ⟨a2, b2, c2, d2⟩ := BI_one (k := 1) a1 (by omega) hv ((b1 h hh).trans ev) (by omega) d1
  obtain ⟨a3, b3, c3, d3⟩ := BI_one (k := 2) a2 (by omega) hv ((b2 h (by omega)).trans ((b1 h hh).trans ev)) (by omega) d2
  rw [show (0 : Int32) = nI 0 from rfl]
  obtain ⟨S1, e1, f1, r1⟩ := y_side (z := n + 5) (n := n + 4) (k := 0) (v5 := v5) (s := s) (rc := rc) H hF hv (by omega)
  obtain ⟨S2, e2, f2, r2⟩ := y_side (z := n + 5) (n := n + 3) (k := 1) (v5 := v5) (s := s) (rc := rc) a1 f1 hv (by omega)
  obtain ⟨S3, e3, f3, r3⟩ := y_side (z := n + 5) (n := n + 2) (k := 2) (v5 := v5) (s := s) (rc := rc) a2 f2 hv (by omega)
  obtain ⟨S4, e4, f4, r4⟩ := y_side (z := n + 5) (n := n + 1) (k := 3) (v5 := v5) (s := s) (rc := rc) a3 f3 hv (by omega)
  rw [e1, e2, e3, e4, mX10_floods_88]; unfold mX10_floods_88b
  rw [if_pos (by decide)]
  exact ⟨S4, rfl, f4, ((r1.tr r2).tr r3).tr r4⟩
def got (x : Int32) : Int32 := if x < 0 then 0 else 1
theorem y_flood2 {D : Nat → Int} {z g p : Nat} (hz : 10000 ≤ z) (hp : p < 256) {t : Int32} : ∀ (n m h : Nat) (S : St) (B : Bs), BI D t.toInt g B → FY D S B → h ≤ B.2.2 → 257 ≤ n + h → n ≤ m →
    ∃ S', mX10_floods_69 z (nI p) t m (nI B.2.2) (nI h) S = some (got ((bfl D t.toInt n h B).1 p), S') ∧ FY D S' (bfl D t.toInt n h B) ∧ FrY S S' := by
  intro n
  induction n with
  | zero =>
    intro m h S B H hF hh hn hm
    have := BI_c H
    omega
  | succ n ih =>
    intro m h S B H hF hh hn hm
    obtain ⟨m, rfl⟩ : ∃ m', m = m' + 1 := ⟨m - 1, by omega⟩
    have hc := BI_c H
    rw [mX10_floods_69, bfl]; unfold mX10_floods_69b
    have li : nI B.2.2 ≤ nI h ↔ B.2.2 ≤ h := leI (by omega) (by omega)
    by_cases c : B.2.2 ≤ h
    · rw [if_pos (li.mpr c), if_pos c]
      refine ⟨S, ?_, hF, FrY.rf S⟩
      unfold mX10_floods_185 got
      rw [rd_nI hp (by omega), ob, hF.2.1 p hp]
      by_cases c2 : B.1 p < 0
      · rw [if_pos c2, if_pos c2]
      · rw [if_neg c2, if_neg c2]
    · rw [if_neg (fun h => c (li.mp h)), if_neg c]
      obtain ⟨v, hv, ev, -, -⟩ := H.2.1 h (by omega)
      rw [rd_nI (by omega) (by omega), ob, hF.2.2 h (by omega), ev]
      obtain ⟨S1, e1, f1, r1⟩ := y_four (z := z) (rc := mX10_floods_69 z (nI p) t m) (s := nI p) (v5 := nI h) hz H hF (by omega) hv ev
      obtain ⟨a1, b1, c1, d1⟩ := BI_four H (by omega) hv ev
      rw [e1, nI_1, nI_ti (by omega), show ((v : Int)).toNat = v by omega]
      obtain ⟨S', e2, f2, r2⟩ := ih m (h + 1) S1 _ a1 f1 (by omega) (by omega) (by omega)
      exact ⟨S', e2, f2, r1.tr r2⟩
theorem bf_no {D : Nat → Int} {t : Int} {g : Nat} (h : ¬ okD D t g) (q : Nat) : bf D t g q = -1 := by
  unfold bf bf0
  rw [if_neg h, bfl, if_pos (Nat.le_refl 0)]
theorem y_flood1 {D : Nat → Int} {z g p : Nat} (hz : 10000 ≤ z) (hg : g < 256) (hp : p < 256) {t : Int32} : ∀ (r k n : Nat) (S : St), k + r = 256 → r < n → (∀ q, q < 256 → (fA S 5 q).toInt = D q) → (∀ q, q < k → fA S 6 q = -1) →
    ∃ S', mX10_floods_3 z (nI g) (nI p) t n (nI k) S = some (got (bf D t.toInt g p), S') ∧ (∀ q, q < 256 → fA S' 6 q = bf D t.toInt g q) ∧ FrY S S' := by
  intro r
  induction r with
  | zero =>
    intro k n S hk hn hD h6
    obtain ⟨n, rfl⟩ : ∃ n', n = n' + 1 := ⟨n - 1, by omega⟩
    have hk' : k = 256 := by omega
    subst hk'
    rw [mX10_floods_3]; unfold mX10_floods_3b
    rw [if_pos (by decide)]
    unfold mX10_floods_25
    rw [rd_nI hg (by omega), ob]
    have dw := hD g hg
    by_cases c2 : fA S 5 g = (-30000)
    · have no : ¬ okD D t.toInt g := fun h => h.1 ((unkD dw).mp c2)
      rw [if_pos c2, bf_no no]
      exact ⟨S, rfl, fun q hq => by rw [bf_no no]; exact h6 q hq, FrY.rf S⟩
    · rw [if_neg c2, ob]
      by_cases c3 : t ≤ fA S 5 g
      · have ok : okD D t.toInt g := ⟨fun h => c2 ((unkD dw).mpr h), by rw [i_le, dw] at c3; exact c3⟩
        rw [if_pos c3, wr_nI hg (by omega), ob, wr_0 (by omega) (by omega), ob, show (1 : Int32) = nI 1 from rfl, show (0 : Int32) = nI 0 from rfl]
        have b0 : bf0 D t.toInt g = (upd (fun _ => -1) g 0, upd (fun _ => 0) 0 (nI g), 1) := by unfold bf0; rw [if_pos ok]
        have F0 : FY D (sA (sA S 6 (upd (fA S 6) g (nI 0))) 7 (upd (fA (sA S 6 (upd (fA S 6) g (nI 0))) 7) 0 (nI g))) (bf0 D t.toInt g) := by
          rw [b0]
          refine ⟨fun q hq => by rw [fA_ne (by omega), fA_ne (by omega)]; exact hD q hq, fun q hq => ?_, fun i hi => ?_⟩
          · rw [fA_ne (by omega), fA_eq]
            show upd (fA S 6) g (nI 0) q = upd (fun _ => -1) g 0 q
            rw [up_e, up_e]
            by_cases e : q = g
            · rw [if_pos e, if_pos e]; rfl
            · rw [if_neg e, if_neg e]; exact h6 q hq
          · have : i = 0 := by have : i < 1 := hi; omega
            subst this
            rw [fA_eq, up_s]
            show nI g = upd (fun _ => (0 : Int32)) 0 (nI g) 0
            rw [up_s]
        have e1 : (bf0 D t.toInt g).2.2 = 1 := by rw [b0]
        obtain ⟨S', x1, x2, x3⟩ := y_flood2 (z := z) hz hp (t := t) 257 z 0 _ (bf0 D t.toInt g) (bf0_ok hg).1 F0 (by omega) (by omega) (by omega)
        rw [e1] at x1
        refine ⟨S', x1, x2.2.1, FrY.tr ?_ x3⟩
        exact ⟨rfl, fun j h1 h2 => by rw [fA_ne h2, fA_ne h1]⟩
      · have no : ¬ okD D t.toInt g := fun h => c3 (by rw [i_le, dw]; exact h.2)
        rw [if_neg c3, bf_no no]
        exact ⟨S, rfl, fun q hq => by rw [bf_no no]; exact h6 q hq, FrY.rf S⟩
  | succ r ih =>
    intro k n S hk hn hD h6
    obtain ⟨n, rfl⟩ : ∃ n', n = n' + 1 := ⟨n - 1, by omega⟩
    rw [mX10_floods_3]; unfold mX10_floods_3b
    rw [show (256 : Int32) = nI 256 from rfl, if_neg (by rw [leI (by omega) (by omega)]; omega), wr_nI (by omega) (by omega), ob, nI_1]
    obtain ⟨S', x1, x2, x3⟩ := ih (k + 1) n (sA S 6 (upd (fA S 6) k (-1))) (by omega) (by omega) (fun q hq => by rw [fA_ne (by omega)]; exact hD q hq) (fun q hq => by
      rw [fA_eq, up_e]
      by_cases e : q = k
      · rw [if_pos e]
      · rw [if_neg e]; exact h6 q (by omega))
    exact ⟨S', x1, x2, FrY.tr (show FrY S (sA S 6 (upd (fA S 6) k (-1))) from ⟨rfl, fun j h1 _ => fA_ne h1⟩) x3⟩
/-- the reference's flood -/
theorem y_flood {D : Nat → Int} {z g p : Nat} (hz : 10000 ≤ z) (hg : g < 256) (hp : p < 256) {S : St} (hD : ∀ q, q < 256 → (fA S 5 q).toInt = D q) (t : Int32) :
    ∃ S', mX10_floods z (nI g) (nI p) t S = some (got (bf D t.toInt g p), S') ∧ (∀ q, q < 256 → fA S' 6 q = bf D t.toInt g q) ∧ FrY S S' := by
  unfold mX10_floods
  exact y_flood1 hz hg hp 256 0 z S (by omega) (by omega) hD (fun q hq => by omega)
theorem y_depths {a : Nat → Int32} {z : Nat} (hz : 10000 ≤ z) (hW : WF a) (v : Int32) : ∀ (r k n : Nat) (S : St), k + r = 256 → r < n → fA S 0 = a → (∀ q, q < k → (fA S 5 q).toInt = dep a v.toInt q) →
    ∃ S', mX10_depths_2 z v n (nI k) S = some S' ∧ (∀ q, q < 256 → (fA S' 5 q).toInt = dep a v.toInt q) ∧ S'.1 = S.1 ∧ ∀ j, j ≠ 5 → fA S' j = fA S j := by
  intro r
  induction r with
  | zero =>
    intro k n S hk hn e0 hD
    obtain ⟨n, rfl⟩ : ∃ n', n = n' + 1 := ⟨n - 1, by omega⟩
    have hk' : k = 256 := by omega
    subst hk'
    rw [mX10_depths_2]; unfold mX10_depths_2b
    rw [if_pos (by decide)]
    exact ⟨S, rfl, hD, rfl, fun _ _ => rfl⟩
  | succ r ih =>
    intro k n S hk hn e0 hD
    obtain ⟨n, rfl⟩ : ∃ n', n = n' + 1 := ⟨n - 1, by omega⟩
    rw [mX10_depths_2]; unfold mX10_depths_2b
    obtain ⟨w, Y, ey, hw, l⟩ := y_depthOf (S := S) hz e0 hW (q := k) (by omega) v
    rw [show (256 : Int32) = nI 256 from rfl, if_neg (by rw [leI (by omega) (by omega)]; omega), ey, ob]
    dsimp only
    rw [wr_nI (by omega) (by omega), ob, nI_1]
    obtain ⟨S', x1, x2, x3, x4⟩ := ih (k + 1) n (sA Y 5 (upd (fA Y 5) k w)) (by omega) (by omega) (by rw [fA_ne (by omega), l.a]; exact e0) (fun q hq => by
      rw [fA_eq, up_e]
      by_cases e : q = k
      · rw [if_pos e, e]; exact hw
      · rw [if_neg e, l.a]; exact hD q (by omega))
    exact ⟨S', x1, x2, x3.trans l.1, fun j hj => by rw [x4 j hj, fA_ne hj, l.a]⟩
