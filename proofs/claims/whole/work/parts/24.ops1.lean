/-! PURE: the calls that change: line, speed, shift, gone -/
theorem Img.of {Sx Sy Sx' Sy' : St} (h : Img Sx Sy) (x0 : fI Sx' 0 = fI Sx 0) (x3 : fI Sx' 3 = fI Sx 3) (x4 : fI Sx' 4 = fI Sx 4) (xA : ∀ k, 17 ≤ k → k < 33 → fA Sx' k = fA Sx k) (y2 : fI Sy' 2 = fI Sy 2) (yA : fA Sy' 2 = fA Sy 2) : Img Sx' Sy' := by
  rcases h with ⟨a, b⟩ | ⟨a, b, r, q⟩
  · exact Or.inl ⟨by rw [x0]; exact a, by rw [y2]; exact b⟩
  · refine Or.inr ⟨by rw [x0]; exact a, by rw [y2]; exact b, ?_, by rw [yA]; exact q⟩
    rw [yA]
    exact r.of (by omega) (fun k hk => by rcases hk with rfl | rfl; exact x3; exact x4) (fun k h1 h2 => xA k (by omega) (by omega))
/-- an act more: what both hold behind it -/
theorem inv_push {Sx Sy X Y : St} {k w o : Int32} {c nx ny : Nat} {g b : Nat → Int32} (hI : Inv Sx Sy) (hc : c ≤ 20) (hnx : nx < 20) (hny : ny < 20)
    (hh : ∀ i, i < c → WF (snap Sy ny (i + 1)) ∧ Und (fA Sx 34 (slot nx i)) (fA Sx 35 (slot nx i)) (fA Sx 36 (slot nx i)) (snap Sy ny i) (snap Sy ny (i + 1)))
    (hg : ∀ j, g j = if 4564 * ny ≤ j ∧ j < 4564 * ny + 4564 then fA Sy 0 (j - 4564 * ny) else fA Sy 1 j)
    (hX : FrU (pushX k w o nx c Sx) X) (hY : Y = sA (pushY g ny c Sy) 0 b) (hR : Rel 0 X b) (hW : WF b) (hu : Und k w o b (fA Sy 0)) : Inv X Y := by
  subst hY
  refine ⟨by rw [fA_eq]; exact hR, by rw [fA_eq]; exact hW, ?_, ?_⟩
  · refine hI.2.2.1.of (hX.1 0 (by omega) (by omega)) (hX.1 3 (by omega) (by omega)) (hX.1 4 (by omega) (by omega)) (fun k h1 h2 => ?_) rfl rfl
    rw [hX.2 k (by omega)]
    show fA (pushX _ _ _ nx c Sx) k = _
    unfold pushX
    rw [fA_sI, fA_sI, fA_ne (by omega), fA_ne (by omega), fA_ne (by omega)]
  · refine hist_push hI.2.1 hc hnx hny hh hg (hX.1 5 (by omega) (by omega)) (hX.1 6 (by omega) (by omega)) rfl rfl (hX.2 34 (by omega)) (hX.2 35 (by omega)) (hX.2 36 (by omega)) rfl ?_
    rw [fA_eq]; exact hu
theorem FrU.tr {S S' S'' : St} (h : FrU S S') (g : FrU S' S'') : FrU S S'' := ⟨fun j a b => (g.1 j a b).trans (h.1 j a b), fun j a => (g.2 j a).trans (h.2 j a)⟩
theorem FrU.rf (S : St) : FrU S S := ⟨fun _ _ _ => rfl, fun _ _ => rfl⟩
/-- the ring's change goes beside the survey's -/
theorem FrU.push {S S' : St} {k w o : Int32} {nx c : Nat} (h : FrU S S') : FrU (pushX k w o nx c S) (pushX k w o nx c S') := by
  refine ⟨fun j a b => ?_, fun j a => ?_⟩
  · unfold pushX
    rw [fI_sI, fI_sI, fI_sI, fI_sI]
    simp only [fI_sA]
    rw [h.1 j a b]
  · unfold pushX
    simp only [fA_sI, fA_sA]
    rw [h.2 j a, h.2 34 (by omega), h.2 35 (by omega), h.2 36 (by omega)]
theorem Rel.push {S : St} {a : Nat → Int32} {k w o : Int32} {nx c : Nat} (h : Rel 0 S a) : Rel 0 (pushX k w o nx c S) a := by
  refine h.of (by omega) (fun j hj => ?_) (fun j h1 h2 => ?_)
  · unfold pushX
    rw [fI_ne (by omega), fI_ne (by omega)]; rfl
  · unfold pushX
    rw [fA_sI, fA_sI, fA_ne (by omega), fA_ne (by omega), fA_ne (by omega)]
theorem ixl (l j : Nat) : (4 : Int32) + 3 * nI l + nI j = nI (4 + 3 * l + j) := by rw [show (4 : Int32) + 3 * nI l = nI (4 + 3 * l) from nI_lin 4 3 l, nI_add]
theorem nl_nI {a : Nat → Int32} (h : WF a) : a 0 = nI (nl a) ∧ nl a ≤ 20 := ⟨i_nI h.1.1, by have := h.1; unfold nl; omega⟩
theorem ns_nI {a : Nat → Int32} (h : WF a) : a 1 = nI (ns a) ∧ ns a ≤ 200 := ⟨i_nI h.2.1.1, by have := h.2.1; unfold ns; omega⟩
theorem in_t {a b c : Int32} (h : ¬ (a < b ∨ c < a)) : (if a < b ∨ c < a then (0 : Int32) else 1) = 1 := if_neg h
theorem in_f {a b c : Int32} (h : a < b ∨ c < a) : (if a < b ∨ c < a then (0 : Int32) else 1) = 0 := if_pos h
theorem one_ne : ¬ (1 : Int32) = 0 := by decide
theorem nir {a b c : Int32} (h : ¬ (a < b ∨ c < a)) : b.toInt ≤ a.toInt ∧ a.toInt ≤ c.toInt := by rw [i_lt, i_lt] at h; omega
theorem rd_0 {f : Nat → Int32} {n : Nat} (h : 0 < n) (hn : n < 2147483648) : rd f n 0 = some (f 0) := rd_nI h hn
theorem rd_1 {f : Nat → Int32} {n : Nat} (h : 1 < n) (hn : n < 2147483648) : rd f n 1 = some (f 1) := rd_nI h hn
theorem wr_0 {f : Nat → Int32} {n : Nat} {x : Int32} (h : 0 < n) (hn : n < 2147483648) : wr f n 0 x = some (upd f 0 x) := wr_nI h hn
theorem wr_1 {f : Nat → Int32} {n : Nat} {x : Int32} (h : 1 < n) (hn : n < 2147483648) : wr f n 1 x = some (upd f 1 x) := wr_nI h hn
theorem p_line {z : Nat} (hz : 10000 ≤ z) : ok_line z Inv := by
  intro Sx Sy v1 v2 hI
  have hI' := hI
  obtain ⟨hR, hW, hM, c, nx, ny, hc, hnx, hny, x6, x5, y0, y1, hh⟩ := hI'
  obtain ⟨e0, hl⟩ := nl_nI hW
  generalize hle : nl (fA Sy 0) = l at e0 hl
  have x1 : fI Sx 1 = nI l := hR.1.trans e0
  unfold mX9_line mX10_line
  rw [w_isDay, ob, w_in, ob]
  by_cases c1 : v1 < 0 ∨ 99 < v1
  · rw [in_f c1, if_pos rfl, if_pos rfl]
    exact ⟨_, _, rfl, rfl, rfl, hI⟩
  rw [in_t c1, if_neg one_ne, if_neg one_ne, w_isSpeed, ob, w_in, ob]
  by_cases c2 : v2 < 1400 ∨ 1600 < v2
  · rw [in_f c2, if_pos rfl, if_pos rfl]
    exact ⟨_, _, rfl, rfl, rfl, hI⟩
  rw [in_t c2, if_neg one_ne, if_neg one_ne, x1, rd_0 (by omega) (by omega), ob, e0]
  by_cases c3 : l = 20
  · subst c3
    rw [if_neg (by decide), if_pos (by decide)]
    exact ⟨_, _, rfl, rfl, rfl, hI⟩
  have hl2 : l < 20 := by omega
  have d1 := nir c1
  have d2 := nir c2
  rw [if_pos (by rw [show (20 : Int32) = nI 20 from rfl, nI_ltI (by omega) (by omega)]; exact hl2), if_neg (by rw [show (20 : Int32) = nI 20 from rfl, nI_eq (by omega) (by omega)]; omega)]
  -- the class
  have hx : mX4_add v1 v2 Sx = some (nI l, sI (sA (sA (sA Sx 0 (upd (fA Sx 0) l v1)) 1 (upd (fA Sx 1) l v2)) 2 (upd (fA Sx 2) l 0)) 1 (nI (l + 1))) := by
    unfold mX4_add
    simp only [fI_sA, x1]
    rw [if_pos (by rw [show (20 : Int32) = nI 20 from rfl, nI_ltI (by omega) (by omega)]; exact hl2), wr_nI hl2 (by omega), ob, wr_nI hl2 (by omega), ob, wr_nI hl2 (by omega), ob, nI_1, fI_eq, nI_pred]
    rfl
  rw [hx, ob, w_push 0 (nI l) 0 hnx hc (by exact x5) (by exact x6), ob]
  -- the reference
  obtain ⟨g, hy, hg⟩ := w_acts hz hny hc y1 y0
  rw [hy, ob, rd_0 (by omega) (by omega), ob, show fA (pushY g ny c Sy) 0 = fA Sy 0 from rfl, e0,
    wr_at (i := 4 + 3 * nI l) (4 + 3 * l) (nI_lin 4 3 l) (by omega) (by omega), ob, fA_eq, wr_at (i := 4 + 3 * nI l + 1) (4 + 3 * l + 1) (ixl l 1) (by omega) (by omega), ob, sA_sA, fA_eq,
    wr_at (i := 4 + 3 * nI l + 2) (4 + 3 * l + 2) (ixl l 2) (by omega) (by omega), ob, sA_sA, fA_eq, rd_0 (by omega) (by omega), ob, up_n _ _ (by omega), up_n _ _ (by omega), up_n _ _ (by omega), e0, nI_1,
    wr_0 (by omega) (by omega), ob, sA_sA]
  refine ⟨_, _, rfl, rfl, rfl, ?_⟩
  have hR3 := rel_line (rel_line (rel_line hR hl2 (j := 0) (by omega) v1) hl2 (j := 1) (by omega) v2) hl2 (j := 2) (by omega) 0
  have hR4 := rel_nl hR3 (nI (l + 1)) (fun l' j h1 h2 h3 => by
    rw [nI_ti (by omega)] at h2
    by_cases q : l' = l
    · subst q
      rcases (show j = 0 ∨ j = 1 ∨ j = 2 by omega) with rfl | rfl | rfl
      · rw [fA_ne (by omega), fA_ne (by omega), fA_eq, up_s, up_n _ _ (by omega), up_n _ _ (by omega), up_s]
      · rw [fA_ne (by omega), fA_eq, up_s, up_n _ _ (by omega), up_s]
      · rw [fA_eq, up_s, up_s]
    · have := hR3.2.2.1 l' j h1 (by rw [nl_up (by omega), nl_up (by omega), nl_up (by omega), hle]; omega) h3
      rw [show 17 * 0 + j = j by omega] at this
      exact this)
  have hW3 := wf_line (wf_line (wf_line hW hl2 (j := 0) (by omega) v1 (fun q => absurd q (by omega))) hl2 (j := 1) (by omega) v2 (fun q => absurd q (by rw [nl_up (by omega)]; omega))) hl2 (j := 2) (by omega) 0 (fun q => absurd q (by rw [nl_up (by omega), nl_up (by omega)]; omega))
  have hW4 := wf_nl (l := l) hW3 hl2 (by rw [nl_up (by omega), nl_up (by omega), nl_up (by omega)]; exact hle) (by
    unfold la
    simp [up_e]
    have z0 : (0 : Int32).toInt = 0 := rfl
    have z1 : (99 : Int32).toInt = 99 := rfl
    have z2 : (1400 : Int32).toInt = 1400 := rfl
    have z3 : (1600 : Int32).toInt = 1600 := rfl
    omega)
  refine inv_push hI hc hnx hny hh hg (FrU.push ?_) rfl (Rel.push hR4) hW4 ?_
  · exact ((FrU.A Sx (k := 0) (by omega) _).tr (FrU.A _ (k := 1) (by omega) _)).tr ((FrU.A _ (k := 2) (by omega) _).tr (FrU.I1 _ _))
  · refine und_line hl2 (up_s _ _ _) e0 (fun k hk h0 h1 => ?_)
    rw [up_n _ _ h0, up_n _ _ (by omega), up_n _ _ (by omega), up_n _ _ (by omega)]
