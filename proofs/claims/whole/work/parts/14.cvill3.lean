/-! what a change keeps -/
theorem vFeed_lo {a : pb_Vg} {b j : Nat} (hb : b < 5) (ho : a (27 + b) < 4) (hj : j < 3 ∨ (7 ≤ j ∧ j < 32) ∨ (37 ≤ j ∧ j < 42)) : vFeed a b j = a j := by
  unfold vFeed vHome
  repeat' split
  all_goals simp (disch := omega) only [pb_u_ne]
theorem vPassB_lo {a : pb_Vg} {b j : Nat} (hb : b < 5) (ho : a (27 + b) < 4) (hj : j < 3 ∨ (7 ≤ j ∧ j < 32) ∨ (37 ≤ j ∧ j < 42)) : vPassB a b j = a j := by
  unfold vPassB
  split
  · rfl
  · exact vFeed_lo hb ho hj
theorem vFeed_s {a : pb_Vg} {b : Nat} {m : Nat} (hb : b < 5) (ho : a (27 + b) < 4) (hs : ∀ j, j < 52 → a j < m) : ∀ j, j < 52 → vFeed a b j < m + 1 := by
  intro j hj
  have h1 := hs j hj
  have h2 := hs (47 + b) (by omega)
  have h3 := hs (3 + a (27 + b)) (by omega)
  have h4 := hs (32 + b) (by omega)
  unfold vFeed vHome
  repeat' split
  all_goals simp only [pb_u]
  all_goals repeat' split
  all_goals omega
