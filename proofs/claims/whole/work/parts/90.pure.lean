theorem pure_ok : LawOK 100000 (fun _ _ => True) ∧ (fun _ _ => True) SX0 SY0 := sorry
