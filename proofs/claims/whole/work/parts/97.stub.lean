def mh0 : MH := (fun _ => 0, fun _ => 0, fun _ _ => 0, fun _ _ => none, 0, 0)
theorem law_ok (L : Nat) (xs : Nat → Int32) (hL : L ≤ 3584) : ∃ h' : MH, f_L_law L xs mh0 = some (1, h') ∧ mm_N h' ≤ 600000 ∧ mm_S h' ≤ 7302250 := by
  sorry
