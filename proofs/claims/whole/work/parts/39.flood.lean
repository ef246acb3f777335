/-! PURE: both floods are the flood -/
def nbI (v k : Nat) : Int32 := match nb v k with
  | none => -1
  | some w => nI w
theorem nI_sub {a b : Nat} (h : b ≤ a) : nI a - nI b = nI (a - b) := by
  have e : nI (a - b) + nI b = nI a := by rw [nI_add]; congr 1; omega
  rw [← e, Int32.add_sub_cancel]
theorem modI {v : Nat} (hv : v < 256) : nI v - nI v / 16 * 16 = nI (v % 16) := by
  rw [show (16 : Int32) = nI 16 from rfl, pk_div (by omega) (by omega) (by omega), pk_mul, nI_sub (by omega)]
  congr 1; omega
theorem leI {a b : Nat} (ha : a < 2147483648) (hb : b < 2147483648) : nI a ≤ nI b ↔ a ≤ b := nI_leI ha hb
theorem ltI {a b : Nat} (ha : a < 2147483648) (hb : b < 2147483648) : nI a < nI b ↔ a < b := by
  rw [i_lt, nI_ti ha, nI_ti hb]; omega
theorem x_beside (S : St) {v k : Nat} (hv : v < 256) (hk : k < 4) : mX1_beside S (nI v) (nI k) = some (nbI v k) := by
  unfold mX1_beside nbI nb
  rcases (show k = 0 ∨ k = 1 ∨ k = 2 ∨ k = 3 by omega) with rfl | rfl | rfl | rfl
  · rw [if_pos (c := nI 0 = 0) rfl, if_pos (c := 0 = 0) rfl, show (16 : Int32) = nI 16 from rfl]
    by_cases c : v < 16
    · rw [if_pos ((ltI (by omega) (by omega)).mpr c), if_pos c]
    · rw [if_neg (fun h => c ((ltI (by omega) (by omega)).mp h)), if_neg c, nI_sub (by omega)]
  · rw [if_neg (c := nI 1 = 0) (by decide), if_pos (c := nI 1 = 1) rfl, if_neg (c := 1 = 0) (by omega), if_pos (c := 1 = 1) rfl, modI hv, show (0 : Int32) = nI 0 from rfl]
    by_cases c : v % 16 = 0
    · rw [if_pos ((leI (by omega) (by omega)).mpr (by omega)), if_pos c]
    · rw [if_neg (fun h => c (by have := (leI (by omega) (by omega)).mp h; omega)), if_neg c, show (1 : Int32) = nI 1 from rfl, nI_sub (by omega)]
  · rw [if_neg (c := nI 2 = 0) (by decide), if_neg (c := nI 2 = 1) (by decide), if_pos (c := nI 2 = 2) rfl, if_neg (c := 2 = 0) (by omega), if_neg (c := 2 = 1) (by omega), if_pos (c := 2 = 2) rfl, modI hv, show (15 : Int32) = nI 15 from rfl]
    by_cases c : v % 16 = 15
    · rw [if_pos ((leI (by omega) (by omega)).mpr (by omega)), if_pos c]
    · rw [if_neg (fun h => c (by have := (leI (by omega) (by omega)).mp h; omega)), if_neg c, show (1 : Int32) = nI 1 from rfl, nI_add]
  · rw [if_neg (c := nI 3 = 0) (by decide), if_neg (c := nI 3 = 1) (by decide), if_neg (c := nI 3 = 2) (by decide), if_neg (c := 3 = 0) (by omega), if_neg (c := 3 = 1) (by omega), if_neg (c := 3 = 2) (by omega), show (16 : Int32) = nI 16 from rfl, nI_add, show (256 : Int32) = nI 256 from rfl]
    by_cases c : 240 ≤ v
    · rw [if_pos ((leI (by omega) (by omega)).mpr (by omega)), if_pos c]
    · rw [if_neg (fun h => c (by have := (leI (by omega) (by omega)).mp h; omega)), if_neg c]
theorem y_beside (S : St) {v k : Nat} (hv : v < 256) (hk : k < 4) : mX10_beside S (nI v) (nI k) = some (nbI v k) := by
  unfold mX10_beside nbI nb
  rcases (show k = 0 ∨ k = 1 ∨ k = 2 ∨ k = 3 by omega) with rfl | rfl | rfl | rfl
  · rw [if_pos (c := nI 0 = 0) rfl, if_pos (c := 0 = 0) rfl, show (16 : Int32) = nI 16 from rfl]
    by_cases c : v < 16
    · rw [if_pos ((ltI (by omega) (by omega)).mpr c), if_pos c]
    · rw [if_neg (fun h => c ((ltI (by omega) (by omega)).mp h)), if_neg c, nI_sub (by omega)]
  · rw [if_neg (c := nI 1 = 0) (by decide), if_pos (c := nI 1 = 1) rfl, if_neg (c := 1 = 0) (by omega), if_pos (c := 1 = 1) rfl, modI hv, show (0 : Int32) = nI 0 from rfl]
    by_cases c : v % 16 = 0
    · rw [if_pos ((leI (by omega) (by omega)).mpr (by omega)), if_pos c]
    · rw [if_neg (fun h => c (by have := (leI (by omega) (by omega)).mp h; omega)), if_neg c, show (1 : Int32) = nI 1 from rfl, nI_sub (by omega)]
  · rw [if_neg (c := nI 2 = 0) (by decide), if_neg (c := nI 2 = 1) (by decide), if_pos (c := nI 2 = 2) rfl, if_neg (c := 2 = 0) (by omega), if_neg (c := 2 = 1) (by omega), if_pos (c := 2 = 2) rfl, modI hv, show (15 : Int32) = nI 15 from rfl]
    by_cases c : v % 16 = 15
    · rw [if_pos ((leI (by omega) (by omega)).mpr (by omega)), if_pos c]
    · rw [if_neg (fun h => c (by have := (leI (by omega) (by omega)).mp h; omega)), if_neg c, show (1 : Int32) = nI 1 from rfl, nI_add]
  · rw [if_neg (c := nI 3 = 0) (by decide), if_neg (c := nI 3 = 1) (by decide), if_neg (c := nI 3 = 2) (by decide), if_neg (c := 3 = 0) (by omega), if_neg (c := 3 = 1) (by omega), if_neg (c := 3 = 2) (by omega), show (240 : Int32) = nI 240 from rfl, show (16 : Int32) = nI 16 from rfl, nI_add]
    by_cases c : 240 ≤ v
    · rw [if_pos ((leI (by omega) (by omega)).mpr (by omega)), if_pos c]
    · rw [if_neg (fun h => c (by have := (leI (by omega) (by omega)).mp h; omega)), if_neg c]
theorem nI_m1 {w : Nat} (h : w < 2147483648) : ¬ nI w = -1 := fun e => by
  have := congrArg Int32.toInt e
  rw [nI_ti h] at this
  have z : (-1 : Int32).toInt = -1 := rfl
  omega
/-- the class's flood holds B over the depths D -/
def FX (D : Nat → Int) (S : St) (B : Bs) : Prop := (∀ q, q < 256 → (fA S 44 q).toInt = D q) ∧ (∀ q, q < 256 → fA S 45 q = B.1 q) ∧ (∀ i, i < B.2.2 → fA S 46 i = B.2.1 i) ∧ fI S 15 = nI B.2.2
def FrX (S S' : St) : Prop := (∀ j, j ≠ 15 → fI S' j = fI S j) ∧ ∀ j, j ≠ 45 → j ≠ 46 → fA S' j = fA S j
theorem FrX.rf (S : St) : FrX S S := ⟨fun _ _ => rfl, fun _ _ _ => rfl⟩
theorem FrX.tr {S S' S'' : St} (h : FrX S S') (g : FrX S' S'') : FrX S S'' := ⟨fun j a => (g.1 j a).trans (h.1 j a), fun j a b => (g.2 j a b).trans (h.2 j a b)⟩
theorem unkD {x : Int32} {k : Int} (h : x.toInt = k) : x = (-30000) ↔ k = -30000 := unk_eq h
/-- one square reached, or left -/
theorem x_reach {D : Nat → Int} {S : St} {B : Bs} {w : Nat} {t s : Int32} (hF : FX D S B) (hw : w < 256) (hc : B.1 w = -1 → B.2.2 < 256) :
    ∃ S', mX1_reach (nI w) t s S = some S' ∧ FX D S' (if B.1 w = -1 ∧ okD D t.toInt w then (upd B.1 w s, upd B.2.1 B.2.2 (nI w), B.2.2 + 1) else B) ∧ FrX S S' := by
  obtain ⟨f1, f2, f3, f4⟩ := hF
  have dw := f1 w hw
  unfold mX1_reach
  rw [rd_nI (by omega) (by omega), ob, rd_nI (by omega) (by omega), ob, f2 w hw]
  by_cases c1 : B.1 w = -1
  · rw [if_pos c1]
    by_cases c2 : fA S 44 w = (-30000)
    · rw [if_pos c2, if_neg (fun h => h.2.1 ((unkD dw).mp c2))]
      exact ⟨S, rfl, ⟨f1, f2, f3, f4⟩, FrX.rf S⟩
    · rw [if_neg c2]
      by_cases c3 : fA S 44 w < t
      · rw [if_pos c3, if_neg (fun h => by rw [i_lt, dw] at c3; have := h.2.2; omega)]
        exact ⟨S, rfl, ⟨f1, f2, f3, f4⟩, FrX.rf S⟩
      · have hc' := hc c1
        rw [if_neg c3, f4, if_pos (by rw [show (256 : Int32) = nI 256 from rfl, ltI (by omega) (by omega)]; exact hc'), if_pos ⟨c1, fun h => c2 ((unkD dw).mpr h), by rw [i_lt, dw] at c3; omega⟩]
        rw [wr_nI hw (by omega), ob, fI_sA, f4, wr_nI hc' (by omega), ob]
        refine ⟨_, rfl, ⟨fun q hq => ?_, fun q hq => ?_, fun i hi => ?_, ?_⟩, fun j hj => ?_, fun j h1 h2 => ?_⟩
        · rw [fA_sI, fA_ne (by omega), fA_ne (by omega)]; exact f1 q hq
        · rw [fA_sI, fA_ne (by omega), fA_eq]
          show upd (fA S 45) w s q = upd B.1 w s q
          rw [up_e, up_e]
          by_cases e : q = w
          · rw [if_pos e, if_pos e]
          · rw [if_neg e, if_neg e]; exact f2 q hq
        · rw [fA_sI, fA_eq, fA_ne (by omega)]
          show upd (fA S 46) B.2.2 (nI w) i = upd B.2.1 B.2.2 (nI w) i
          rw [up_e, up_e]
          by_cases e : i = B.2.2
          · rw [if_pos e, if_pos e]
          · rw [if_neg e, if_neg e]
            have hi' : i < B.2.2 + 1 := hi
            exact f3 i (by omega)
        · rw [fI_sI, if_pos rfl, fI_sA, fI_sA, f4, nI_1]
        · rw [fI_sI, if_neg hj, fI_sA, fI_sA]
        · rw [fA_sI, fA_ne h2, fA_ne h1]
  · rw [if_neg c1, if_neg (fun h => c1 h.1)]
    exact ⟨S, rfl, ⟨f1, f2, f3, f4⟩, FrX.rf S⟩
theorem on1_none {D : Nat → Int} {t : Int} {v k : Nat} {B : Bs} (h : nb v k = none) : on1 D t v k B = B := by unfold on1; rw [h]
theorem on1_some {D : Nat → Int} {t : Int} {v k w : Nat} {B : Bs} (h : nb v k = some w) : on1 D t v k B = if B.1 w = -1 ∧ okD D t w then (upd B.1 w (B.1 v + 1), upd B.2.1 B.2.2 (nI w), B.2.2 + 1) else B := by unfold on1; rw [h]
theorem BI_room {D : Nat → Int} {t : Int} {g : Nat} {B : Bs} (H : BI D t g B) {w : Nat} (hw : w < 256) (h : B.1 w = -1) : B.2.2 < 256 := by
  have c := cnt_up B.1 (s := 0) h (by decide) 256
  have := cnt_le (upd B.1 w 0) 256
  rw [if_pos hw] at c
  have := H.1
  omega
theorem x_side {D : Nat → Int} {z g h v k n : Nat} {S : St} {B : Bs} {t v3 : Int32} {rc : Int32 → St → Option St} (H : BI D t.toInt g B) (hF : FX D S B) (hv : v < 256) (hk : k < 4) :
    ∃ S', mX1_flood_48 z rc t v3 (nI v) (n + 1) (nI k) S = mX1_flood_48 z rc t v3 (nI v) n (nI (k + 1)) S' ∧ FX D S' (on1 D t.toInt v k B) ∧ FrX S S' := by
  rw [mX1_flood_48]; unfold mX1_flood_48b
  rw [show (4 : Int32) = nI 4 from rfl, if_neg (by rw [leI (by omega) (by omega)]; omega), x_beside S hv hk, ob]
  unfold nbI
  cases hn : nb v k with
  | none =>
    dsimp only
    rw [if_pos rfl, nI_1, on1_none hn]
    exact ⟨S, rfl, hF, FrX.rf S⟩
  | some w =>
    dsimp only
    have hw := (nb_lt hv hn).1
    rw [if_neg (nI_m1 (by omega)), rd_nI hv (by omega), ob, hF.2.1 v hv, nI_1]
    obtain ⟨S', e, f, r⟩ := x_reach (t := t) (s := B.1 v + 1) hF hw (BI_room H hw)
    rw [e, ob, on1_some hn]
    exact ⟨S', rfl, f, r⟩
theorem x_four {D : Nat → Int} {z g h v : Nat} (hz : 10000 ≤ z) {S : St} {B : Bs} {t v3 : Int32} {rc : Int32 → St → Option St} (H : BI D t.toInt g B) (hF : FX D S B) (hh : h < B.2.2) (hv : v < 256) (ev : B.2.1 h = nI v) :
    ∃ S', mX1_flood_48 z rc t v3 (nI v) z 0 S = rc (v3 + 1) S' ∧ FX D S' (four D t.toInt v B) ∧ FrX S S' := by
  obtain ⟨n, rfl⟩ : ∃ n, z = n + 5 := ⟨z - 5, by omega⟩
  obtain ⟨a1, b1, c1, d1⟩ := BI_one (k := 0) H hh hv ev (by omega) (fun j w hj => by omega)
  obtain ⟨a2, b2, c2, d2⟩ := BI_one (k := 1) a1 (by omega) hv ((b1 h hh).trans ev) (by omega) d1
  obtain ⟨a3, b3, c3, d3⟩ := BI_one (k := 2) a2 (by omega) hv ((b2 h (by omega)).trans ((b1 h hh).trans ev)) (by omega) d2
  rw [show (0 : Int32) = nI 0 from rfl]
  obtain ⟨S1, e1, f1, r1⟩ := x_side (z := n + 5) (n := n + 4) (k := 0) (v3 := v3) (rc := rc) (h := h) H hF hv (by omega)
  obtain ⟨S2, e2, f2, r2⟩ := x_side (z := n + 5) (n := n + 3) (k := 1) (v3 := v3) (rc := rc) (h := h) a1 f1 hv (by omega)
  obtain ⟨S3, e3, f3, r3⟩ := x_side (z := n + 5) (n := n + 2) (k := 2) (v3 := v3) (rc := rc) (h := h) a2 f2 hv (by omega)
  obtain ⟨S4, e4, f4, r4⟩ := x_side (z := n + 5) (n := n + 1) (k := 3) (v3 := v3) (rc := rc) (h := h) a3 f3 hv (by omega)
  rw [e1, e2, e3, e4, mX1_flood_48]; unfold mX1_flood_48b
  rw [if_pos (by decide)]
  exact ⟨S4, rfl, f4, ((r1.tr r2).tr r3).tr r4⟩
theorem x_flood2 {D : Nat → Int} {z g : Nat} (hz : 10000 ≤ z) {t : Int32} : ∀ (n m h : Nat) (S : St) (B : Bs), BI D t.toInt g B → FX D S B → h ≤ B.2.2 → 257 ≤ n + h → n ≤ m →
    ∃ S', mX1_flood_22 z t m (nI h) S = some S' ∧ FX D S' (bfl D t.toInt n h B) ∧ FrX S S' := by
  intro n
  induction n with
  | zero =>
    intro m h S B H hF hh hn hm
    have := BI_c H
    omega
  | succ n ih =>
    intro m h S B H hF hh hn hm
    obtain ⟨m, rfl⟩ : ∃ m', m = m' + 1 := ⟨m - 1, by omega⟩
    have hc := BI_c H
    rw [mX1_flood_22, bfl]; unfold mX1_flood_22b
    by_cases c : B.2.2 ≤ h
    · rw [if_pos c]
      refine ⟨S, ?_, hF, FrX.rf S⟩
      by_cases c2 : (256 : Int32) ≤ nI h
      · rw [if_pos c2]
      · rw [if_neg c2, hF.2.2.2, if_pos (by rw [leI (by omega) (by omega)]; exact c)]
    · rw [if_neg c]
      obtain ⟨v, hv, ev, -, -⟩ := H.2.1 h (by omega)
      have e : (B.2.1 h).toInt.toNat = v := by rw [ev, nI_ti (by omega)]; omega
      rw [show (256 : Int32) = nI 256 from rfl, if_neg (by rw [leI (by omega) (by omega)]; omega), hF.2.2.2, if_neg (by rw [leI (by omega) (by omega)]; exact c), rd_nI (by omega) (by omega), ob, hF.2.2.1 h (by omega), ev]
      obtain ⟨S1, e1, f1, r1⟩ := x_four (z := z) (rc := mX1_flood_22 z t m) (v3 := nI h) hz H hF (by omega) hv ev
      obtain ⟨a1, b1, c1, d1⟩ := BI_four H (by omega) hv ev
      rw [e1, nI_1, nI_ti (by omega), show ((v : Int)).toNat = v by omega]
      obtain ⟨S', e2, f2, r2⟩ := ih m (h + 1) S1 _ a1 f1 (by omega) (by omega) (by omega)
      exact ⟨S', e2, f2, r1.tr r2⟩
theorem x_fill45 (z : Nat) (v : Int32) : ∀ (r k n : Nat) (S : St), k + r = 256 → r < n → ∃ g : Nat → Int32, mJ7_fill_X59_5 z v 256 n (nI k) S = some (sA S 45 g) ∧ ∀ q, q < 256 → g q = if k ≤ q then v else fA S 45 q := by
  intro r
  induction r with
  | zero =>
    intro k n S hk hn
    obtain ⟨n, rfl⟩ : ∃ n', n = n' + 1 := ⟨n - 1, by omega⟩
    rw [mJ7_fill_X59_5]; unfold mJ7_fill_X59_5b
    rw [if_pos (by rw [show (256 : Int32) = nI 256 from rfl, nI_leI (by omega) (by omega)]; omega)]
    exact ⟨fA S 45, by rw [sA_self], fun q hq => by rw [if_neg (by omega)]⟩
  | succ r ih =>
    intro k n S hk hn
    obtain ⟨n, rfl⟩ : ∃ n', n = n' + 1 := ⟨n - 1, by omega⟩
    rw [mJ7_fill_X59_5]; unfold mJ7_fill_X59_5b
    rw [if_neg (by rw [show (256 : Int32) = nI 256 from rfl, nI_leI (by omega) (by omega)]; omega), wr_nI (by omega) (by omega), ob, nI_1]
    obtain ⟨g, e, hg⟩ := ih (k + 1) n (sA S 45 (upd (fA S 45) k v)) (by omega) (by omega)
    refine ⟨g, by rw [e, sA_sA], fun q hq => ?_⟩
    rw [hg q hq, fA_eq, up_e]
    by_cases c1 : k ≤ q
    · rw [if_pos c1]
      by_cases c2 : q = k
      · rw [if_neg (by omega), if_pos c2]
      · rw [if_pos (by omega)]
    · rw [if_neg c1, if_neg (by omega), if_neg (by omega)]
/-- the class's flood -/
theorem x_flood {D : Nat → Int} {z g : Nat} (hz : 10000 ≤ z) (hg : g < 256) {S : St} (hD : ∀ q, q < 256 → (fA S 44 q).toInt = D q) (t : Int32) :
    ∃ S', mX1_flood z (nI g) t S = some S' ∧ (∀ q, q < 256 → fA S' 45 q = bf D t.toInt g q) ∧ FrX S S' := by
  unfold mX1_flood mJ7_fill_X59
  rw [show (0 : Int32) = nI 0 from rfl]
  obtain ⟨f, e, hf⟩ := x_fill45 z (-1) 256 0 z S (by omega) (by omega)
  rw [e, ob]
  have F0 : FX D (sI (sA S 45 f) 15 (nI 0)) (fun _ => -1, fun _ => 0, 0) := ⟨fun q hq => by rw [fA_sI, fA_ne (by omega)]; exact hD q hq, fun q hq => by rw [fA_sI, fA_eq, hf q hq, if_pos (by omega)], fun i hi => absurd hi (Nat.not_lt_zero _), rfl⟩
  obtain ⟨S1, e1, f1, r1⟩ := x_reach (t := t) (s := nI 0) F0 hg (fun _ => by show 0 < 256; omega)
  rw [e1, ob]
  have e0 : (if ((fun _ => -1, fun _ => 0, 0) : Bs).1 g = -1 ∧ okD D t.toInt g then (upd ((fun _ => -1, fun _ => 0, 0) : Bs).1 g (nI 0), upd ((fun _ => -1, fun _ => 0, 0) : Bs).2.1 ((fun _ => -1, fun _ => 0, 0) : Bs).2.2 (nI g), ((fun _ => -1, fun _ => 0, 0) : Bs).2.2 + 1) else (fun _ => -1, fun _ => 0, 0)) = bf0 D t.toInt g := by
    unfold bf0
    by_cases c : okD D t.toInt g
    · rw [if_pos ⟨rfl, c⟩, if_pos c]; rfl
    · rw [if_neg (fun h => c h.2), if_neg c]
  rw [e0] at f1
  obtain ⟨S2, e2, f2, r2⟩ := x_flood2 (z := z) (g := g) hz (t := t) 257 z 0 S1 _ (bf0_ok hg).1 f1 (Nat.zero_le _) (by omega) (by omega)
  refine ⟨S2, e2, f2.2.1, FrX.tr ?_ (r1.tr r2)⟩
  exact ⟨fun j hj => by rw [fI_sI, if_neg hj, fI_sA], fun j h1 h2 => by rw [fA_sI, fA_ne h1]⟩
