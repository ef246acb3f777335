/-! PURE: lead, sweep, notice -/
theorem y_in2 {S : St} {a b c : Int32} {B C : Int} (hb : b.toInt = B) (hc : c.toInt = C) : mX10_in S a b c = some (if B ≤ a.toInt ∧ a.toInt ≤ C then 1 else 0) := by
  rw [w_in]; congr 1
  by_cases q : B ≤ a.toInt ∧ a.toInt ≤ C
  · rw [if_pos q, if_neg (by rw [i_lt, i_lt]; omega)]
  · rw [if_neg q, if_pos (by rw [i_lt, i_lt]; omega)]
theorem x_in2 {S : St} {a b c : Int32} {B C : Int} (hb : b.toInt = B) (hc : c.toInt = C) : mX9_within S a b c = some (if B ≤ a.toInt ∧ a.toInt ≤ C then 1 else 0) := by
  rw [w_within, ← w_in S]; exact y_in2 hb hc
theorem x_min (S : St) (a : Int32) : mX9_isMinute S a = some (if 0 ≤ a.toInt ∧ a.toInt ≤ 1439 then 1 else 0) := by
  unfold mX9_isMinute; rw [x_in2 (B := 0) (C := 1439) rfl rfl, ob, zb_ite2]
theorem x_day (S : St) (a : Int32) : mX9_isDay S a = some (if 0 ≤ a.toInt ∧ a.toInt ≤ 99 then 1 else 0) := by
  unfold mX9_isDay; rw [x_in2 (B := 0) (C := 99) rfl rfl, ob, zb_ite2]
theorem x_sq (S : St) (a : Int32) : mX9_isSquare S a = some (if 0 ≤ a.toInt ∧ a.toInt ≤ 255 then 1 else 0) := by
  unfold mX9_isSquare; rw [x_in2 (B := 0) (C := 255) rfl rfl, ob, zb_ite2]
theorem x_den (S : St) (a : Int32) : mX9_isDensity S a = some (if 1 ≤ a.toInt ∧ a.toInt ≤ 6 then 1 else 0) := by
  unfold mX9_isDensity; rw [x_in2 (B := 1) (C := 6) rfl rfl, ob, zb_ite2]
theorem x_rch (S : St) (a : Int32) : mX9_isReach S a = some (if 0 ≤ a.toInt ∧ a.toInt ≤ 400 then 1 else 0) := by
  unfold mX9_isReach; rw [x_in2 (B := 0) (C := 400) rfl rfl, ob, zb_ite2]
theorem x_pl (S : St) (a b : Int32) : mX9_isPlace S a b = some (if (0 ≤ a.toInt ∧ a.toInt ≤ 255) ∧ (0 ≤ b.toInt ∧ b.toInt ≤ 255) then 1 else 0) := by
  unfold mX9_isPlace
  rw [x_in2 (B := 0) (C := 255) rfl rfl, ob]
  by_cases q : 0 ≤ a.toInt ∧ a.toInt ≤ 255
  · rw [if_pos q, if_neg one_ne, x_in2 (B := 0) (C := 255) rfl rfl, ob]
    by_cases r : 0 ≤ b.toInt ∧ b.toInt ≤ 255
    · rw [if_pos r, if_neg one_ne, if_pos ⟨q, r⟩]
    · rw [if_neg r, if_pos rfl, if_neg (fun w => r w.2)]
  · rw [if_neg q, if_pos rfl, if_neg (fun w => q w.1)]
theorem y_pl (S : St) (a b : Int32) : mX10_isPlace S a b = some (if (0 ≤ a.toInt ∧ a.toInt ≤ 255) ∧ (0 ≤ b.toInt ∧ b.toInt ≤ 255) then 1 else 0) := by
  unfold mX10_isPlace
  rw [y_in2 (B := 0) (C := 255) rfl rfl, ob]
  by_cases q : 0 ≤ a.toInt ∧ a.toInt ≤ 255
  · rw [if_pos q, if_neg one_ne, y_in2 (B := 0) (C := 255) rfl rfl, ob]
    by_cases r : 0 ≤ b.toInt ∧ b.toInt ≤ 255
    · rw [if_pos r, if_neg one_ne, if_pos ⟨q, r⟩]
    · rw [if_neg r, if_pos rfl, if_neg (fun w => r w.2)]
  · rw [if_neg q, if_pos rfl, if_neg (fun w => q w.1)]
/-- a sounding of a line may be added -/
def Gd (l n : Nat) (v1 v2 v3 v4 : Int32) : Prop := (0 ≤ v1.toInt ∧ v1.toInt < l) ∧ (0 ≤ v2.toInt ∧ v2.toInt ≤ 1439) ∧ ((0 ≤ v3.toInt ∧ v3.toInt ≤ 255) ∧ (0 ≤ v4.toInt ∧ v4.toInt ≤ 255)) ∧ n < 200
theorem y_mayF {S : St} {l n : Nat} (h0 : fA S 0 0 = nI l) (hl : l ≤ 20) (h1 : fA S 0 1 = nI n) (hn : n ≤ 200) {v1 v2 v3 v4 : Int32} (g : ¬ Gd l n v1 v2 v3 v4) : mX10_mayBe S v1 v2 v3 v4 = some 0 := by
  unfold mX10_mayBe
  rw [y_isLine h0 hl, ob]
  by_cases c1 : 0 ≤ v1.toInt ∧ v1.toInt < l
  · rw [if_pos c1, if_neg one_ne, y_in2 (B := 0) (C := 1439) rfl rfl, ob]
    by_cases c2 : 0 ≤ v2.toInt ∧ v2.toInt ≤ 1439
    · rw [if_pos c2, if_neg one_ne, y_pl, ob]
      by_cases c3 : (0 ≤ v3.toInt ∧ v3.toInt ≤ 255) ∧ (0 ≤ v4.toInt ∧ v4.toInt ≤ 255)
      · rw [if_pos c3, if_neg one_ne, rd_1 (by omega) (by omega), ob, h1]
        by_cases c4 : n < 200
        · exact absurd ⟨c1, c2, c3, c4⟩ g
        · rw [if_pos (by rw [show (200 : Int32) = nI 200 from rfl, nI_leI (by omega) (by omega)]; omega)]
      · rw [if_neg c3, if_pos rfl]
    · rw [if_neg c2, if_pos rfl]
  · rw [if_neg c1, if_pos rfl]
theorem y_mayT {S : St} {l n : Nat} (h0 : fA S 0 0 = nI l) (hl : l ≤ 20) (h1 : fA S 0 1 = nI n) {v1 v2 v3 v4 : Int32} (g : Gd l n v1 v2 v3 v4) : mX10_mayBe S v1 v2 v3 v4 = some 1 := by
  unfold mX10_mayBe
  obtain ⟨c1, c2, c3, c4⟩ := g
  rw [y_isLine h0 hl, ob, if_pos c1, if_neg one_ne, y_in2 (B := 0) (C := 1439) rfl rfl, ob, if_pos c2, if_neg one_ne, y_pl, ob, if_pos c3, if_neg one_ne, rd_1 (by omega) (by omega), ob, h1, if_neg (by rw [show (200 : Int32) = nI 200 from rfl, nI_leI (by omega) (by omega)]; omega)]
theorem x_aolF {S : St} {l n : Nat} (h0 : fI S 1 = nI l) (hl : l ≤ 20) (h1 : fI S 2 = nI n) (hn : n ≤ 200) {v1 v2 v3 v4 : Int32} (k r : Int32) (g : ¬ Gd l n v1 v2 v3 v4) : mX9_addOfLine k v1 v2 v3 v4 r S = some (-1, S) := by
  unfold mX9_addOfLine
  rw [x_has h0 hl, ob]
  by_cases c1 : 0 ≤ v1.toInt ∧ v1.toInt < l
  · rw [if_pos c1, if_neg one_ne, x_min, ob]
    by_cases c2 : 0 ≤ v2.toInt ∧ v2.toInt ≤ 1439
    · rw [if_pos c2, if_neg one_ne, x_pl, ob]
      by_cases c3 : (0 ≤ v3.toInt ∧ v3.toInt ≤ 255) ∧ (0 ≤ v4.toInt ∧ v4.toInt ≤ 255)
      · rw [if_pos c3, if_neg one_ne]
        by_cases c4 : n < 200
        · exact absurd ⟨c1, c2, c3, c4⟩ g
        · have : n = 200 := by omega
          subst this
          rw [x_full h1, ob, if_pos rfl]
      · rw [if_neg c3, if_pos rfl]
    · rw [if_neg c2, if_pos rfl]
  · rw [if_neg c1, if_pos rfl]
theorem nI_ne1 {n : Nat} (h : n < 2147483648) : ¬ nI n = (-1) := by
  have z1 : (-1 : Int32).toInt = -1 := rfl
  rw [i_eq, nI_ti h]; omega
theorem x_aolT {S : St} {l n nx c : Nat} (h0 : fI S 1 = nI l) (hl : l ≤ 20) (h1 : fI S 2 = nI n) (hnx : nx < 20) (hc : c ≤ 20) (h5 : fI S 5 = nI nx) (h6 : fI S 6 = nI c) {l' : Nat} {v2 v3 v4 : Int32} (k r : Int32) (g : Gd l n (nI l') v2 v3 v4) (hl' : l' < l) : mX9_addOfLine k (nI l') v2 v3 v4 r S = some (nI n, orgX (pushX 5 (nI n) 0 nx c (addX S n k v3 v4 r)) n (fA S 0 l') (nI l') v2) := by
  unfold mX9_addOfLine
  obtain ⟨c1, c2, c3, c4⟩ := g
  rw [x_has h0 hl, ob, if_pos c1, if_neg one_ne, x_min, ob, if_pos c2, if_neg one_ne, x_pl, ob, if_pos c3, if_neg one_ne, x_addS h1 c4 hnx hc h5 h6, ob, if_neg (nI_ne1 (by omega)), show fA (nI n, pushX 5 (nI n) 0 nx c (addX S n k v3 v4 r)).2 0 = fA S 0 from rfl, rd_nI (by omega) (by omega), ob, x_org c4, ob]
theorem y_lineOf {S : St} {l j : Nat} (hl : l < 20) (hj : j < 3) : mX10_lineOf S (nI l) (nI j) = some (fA S 0 (4 + 3 * l + j)) := by
  unfold mX10_lineOf
  rw [rd_at (i := 4 + 3 * nI l + nI j) _ (ixl l j) (by omega) (by omega), ob]
theorem sA_self (S : St) (k : Nat) : sA S k (fA S k) = S := by
  unfold sA fA
  refine Prod.ext rfl (Prod.ext rfl (funext fun j => ?_))
  by_cases q : j = k <;> simp [q]
theorem upd_self {f : Nat → Int32} {k : Nat} {x : Int32} (h : f k = x) : upd f k x = f := by
  funext j
  rw [up_e]
  by_cases q : j = k
  · rw [if_pos q, q, h]
  · rw [if_neg q]
theorem span_self {S : St} {n : Nat} {w h : Int32} (hw : fA S 14 n = w) (hh : fA S 15 n = h) : spanX S n w h = S := by
  unfold spanX
  rw [upd_self hw, upd_self hh, sA_self, sA_self]
theorem org_one (S : St) (n nx c : Nat) (k x y r d l m : Int32) : spanX (orgX (pushX 5 (nI n) 0 nx c (addX S n k x y r)) n d l m) n 1 1 = orgX (pushX 5 (nI n) 0 nx c (addX S n k x y r)) n d l m := by
  refine span_self ?_ ?_
  · unfold orgX pushX addX
    simp only [fA_sA, fA_sI, Nat.reduceEqDiff, if_true, if_false, reduceIte, up_s]
  · unfold orgX pushX addX
    simp only [fA_sA, fA_sI, Nat.reduceEqDiff, if_true, if_false, reduceIte, up_s]
/-- of lead and echo: the same with another kind -/
theorem p_of {z : Nat} (hz : 10000 ≤ z) {Sx Sy : St} (hI : Inv Sx Sy) (k v1 v2 v3 v4 r w h : Int32) (hk : 0 ≤ k.toInt ∧ k.toInt < 3) (hr : 0 ≤ r.toInt ∧ r.toInt ≤ 19999) (hg : Gd (nl (fA Sy 0)) (ns (fA Sy 0)) v1 v2 v3 v4) (hw : 1 ≤ w.toInt ∧ v3.toInt + w.toInt ≤ 256) (hh : 1 ≤ h.toInt ∧ v4.toInt + h.toInt ≤ 256) :
    ∃ (n l : Nat) (X Y : St), n < 200 ∧ l < 20 ∧ v1 = nI l ∧ mX9_addOfLine k v1 v2 v3 v4 r Sx = some (nI n, X) ∧ mX10_add z k v3 v4 r (fA Sy 0 (4 + 3 * l)) v1 v2 w h Sy = some (nI n, Y) ∧ Inv (spanX X n w h) Y ∧ (w = 1 → h = 1 → spanX X n w h = X) := by
  have hI' := hI
  obtain ⟨hR, hW, hM, c, nx, ny, hc, hnx, hny, x6, x5, y0, y1, hh'⟩ := hI'
  obtain ⟨e0, hl⟩ := nl_nI hW
  obtain ⟨e1, hn⟩ := ns_nI hW
  generalize hle : nl (fA Sy 0) = L at e0 hl hg
  generalize hne : ns (fA Sy 0) = n at e1 hn hg
  obtain ⟨l, rfl, hk1⟩ := i_ex hg.1.1
  have hl2 : l < L := by have := hg.1.2; omega
  have hn2 : n < 200 := hg.2.2.2
  obtain ⟨g, b, ey, hgg, hb⟩ := y_add hz e1 hn2 hny hc y1 y0 k v3 v4 r (fA Sy 0 (4 + 3 * l)) (nI l) v2 w h
  refine ⟨n, l, _, _, hn2, by omega, rfl, x_aolT (hR.1.trans e0) hl (hR.2.1.trans e1) hnx hc x5 x6 k r hg hl2, ey, ?_, ?_⟩
  · have q : fA Sx 0 l = fA Sy 0 (4 + 3 * l) := hR.2.2.1 l 0 (by omega) (by omega) (by omega)
    rw [q]
    refine inv_add hI hn2 hne hc hnx hny hh' hgg rfl rfl hb (wf_add hW hn2 hne ?_)
    have wl := (hW.2.2.1 l (by omega) (by omega)).1
    have wl' : la (fA Sy 0) l 0 = (fA Sy 0 (4 + 3 * l)).toInt := rfl
    rw [wl'] at wl
    obtain ⟨g1, g2, ⟨g3, g4⟩, g5⟩ := hg
    have z100 : (100 : Int32).toInt = 100 := rfl
    show (0 ≤ k.toInt ∧ k.toInt ≤ 5) ∧ (0 ≤ v3.toInt ∧ v3.toInt ≤ 255) ∧ (0 ≤ v4.toInt ∧ v4.toInt ≤ 255) ∧ (-200 ≤ r.toInt ∧ r.toInt ≤ 19999) ∧ (0 ≤ (fA Sy 0 (4 + 3 * l)).toInt ∧ (fA Sy 0 (4 + 3 * l)).toInt ≤ 99) ∧ (k.toInt < 3 → (0 ≤ r.toInt ∧ 0 ≤ (nI l).toInt ∧ (nI l).toInt < nl (fA Sy 0) ∧ 0 ≤ v2.toInt ∧ v2.toInt ≤ 1439)) ∧ (3 ≤ k.toInt → (nI l).toInt = -1) ∧ (0 ≤ (100 : Int32).toInt ∧ (100 : Int32).toInt ≤ 100) ∧ (1 ≤ w.toInt ∧ v3.toInt + w.toInt ≤ 256) ∧ (1 ≤ h.toInt ∧ v4.toInt + h.toInt ≤ 256)
    rw [hle]
    refine ⟨by omega, by omega, by omega, by omega, by omega, fun _ => by omega, fun _ => by omega, by omega, hw, hh⟩
  · rintro rfl rfl
    exact org_one _ _ _ _ _ _ _ _ _ _ _
theorem p_lead {z : Nat} (hz : 10000 ≤ z) : ok_lead z Inv := by
  intro Sx Sy v1 v2 v3 v4 v5 hI
  obtain ⟨e0, hl⟩ := nl_nI hI.2.1
  obtain ⟨e1, hn⟩ := ns_nI hI.2.1
  unfold mX9_lead mX10_lead
  rw [x_in2 (B := 0) (C := 9999) rfl rfl, ob]
  by_cases g : Gd (nl (fA Sy 0)) (ns (fA Sy 0)) v1 v2 v3 v4
  · rw [y_mayT e0 hl e1 g, ob, if_neg one_ne, y_in2 (B := 0) (C := 9999) rfl rfl, ob]
    by_cases r : 0 ≤ v5.toInt ∧ v5.toInt ≤ 9999
    · rw [if_pos r, if_neg one_ne, if_neg one_ne]
      have g3 := g.2.2.1
      have z1 : (1 : Int32).toInt = 1 := rfl
      obtain ⟨n, l, X, Y, h1, h2, rfl, h4, h5, h6, h7⟩ := p_of hz hI 0 v1 v2 v3 v4 v5 1 1 (by decide) (by omega) g (by omega) (by omega)
      rw [h4, ob, show (0 : Int32) = nI 0 from rfl, y_lineOf h2 (by omega), ob, show 4 + 3 * l + 0 = 4 + 3 * l by omega, show nI 0 = (0 : Int32) from rfl, h5, ob]
      rw [h7 rfl rfl] at h6
      exact ⟨_, _, rfl, rfl, rfl, h6⟩
    · rw [if_neg r, if_pos rfl, if_pos rfl]
      exact ⟨_, _, rfl, rfl, rfl, hI⟩
  · rw [y_mayF e0 hl e1 hn g, ob, if_pos rfl, x_aolF (hI.1.1.trans e0) hl (hI.1.2.1.trans e1) hn 0 v5 g, ob]
    refine ⟨(-1, Sx), _, ?_, rfl, rfl, hI⟩
    by_cases r : 0 ≤ v5.toInt ∧ v5.toInt ≤ 9999
    · rw [if_pos r, if_neg one_ne]
    · rw [if_neg r, if_pos rfl]
