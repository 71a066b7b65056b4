/-! WHAT IS LEFT: the law's run, pure -/
theorem law_wp {h : AH} {b L : Nat} {xs : Nat → Int32} (hL : L ≤ 3072) (hS : Start h b L xs) : wp 2000 K_L_law 0 [] (ent 0 [vr (some b)]) h (fun v _ => v = some (vi 1)) := by
  sorry
