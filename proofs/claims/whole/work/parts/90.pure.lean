/-! PURE: every call of both answers alike -/
theorem hz5 : 10000 ≤ 100000 := by decide
theorem pure_ok : LawOK 100000 Inv ∧ Inv SX0 SY0 :=
  ⟨⟨p_line hz5, p_tide hz5, p_speed hz5, p_shift hz5, p_lead hz5, p_echo hz5, p_sweep hz5, p_notice hz5, p_gone hz5, p_count hz5, p_sounding hz5, p_depth hz5, p_boat hz5, p_water hz5, p_cross hz5, p_worst hz5, p_shown hz5, p_why hz5, p_bottom hz5, p_deepest hz5, p_way hz5, p_narrow hz5, p_draught hz5, p_check hz5, p_undo hz5, p_image hz5, p_load hz5⟩, inv0⟩
