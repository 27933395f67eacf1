/-! THE CLASS'S VILLAGE: each method over a village a in the row (h + 1) -/
section CV
variable {μ : pb_M} {h : Nat} {a : pb_Vg}
theorem c_own (hc : pb_CR (μ.1 (h + 1)) 0 a) {b : Nat} (hb : b < 5) : pX5_ownerOf h (nI b) μ = some (nI (a (27 + b)), μ) := by
  simp (disch := omega) only [pX5_ownerOf, lz, q_add, q_in, q_cl, q_eq, q_lt, q_le, q_9, q_b10, q_b01, Nat.one_ne_zero, eq_self, if_true, if_false, pb_b_some, hc.lo]
theorem c_wor (hc : pb_CR (μ.1 (h + 1)) 0 a) {b : Nat} (hb : b < 5) : pX5_worthOf h (nI b) μ = some (nI (a (32 + b)), μ) := by
  simp (disch := omega) only [pX5_worthOf, lz, q_add, q_in, q_cl, q_eq, q_lt, q_le, q_9, q_b10, q_b01, Nat.one_ne_zero, eq_self, if_true, if_false, pb_b_some, hc.lo]
theorem c_knd (hc : pb_CR (μ.1 (h + 1)) 0 a) {b : Nat} (hb : b < 5) : pX5_kindOf h (nI b) μ = some (nI (a (37 + b)), μ) := by
  simp (disch := omega) only [pX5_kindOf, lz, q_add, q_in, q_cl, q_eq, q_lt, q_le, q_9, q_b10, q_b01, Nat.one_ne_zero, eq_self, if_true, if_false, pb_b_some, hc.lo]
theorem c_dys (hc : pb_CR (μ.1 (h + 1)) 0 a) {b : Nat} (hb : b < 5) : pX5_daysOf h (nI b) μ = some (nI (a (47 + b)), μ) := by
  simp (disch := omega) only [pX5_daysOf, lz, q_add, q_in, q_cl, q_eq, q_lt, q_le, q_9, q_b10, q_b01, Nat.one_ne_zero, eq_self, if_true, if_false, pb_b_some, hc.lo]
theorem c_hol (hc : pb_CR (μ.1 (h + 1)) 0 a) {b : Nat} (hb : b < 5) : pX5_holderOf h (nI b) μ = some (pb_e (42 + b) (a (42 + b)), μ) := by
  simp (disch := omega) only [pX5_holderOf, lz, q_add, q_in, q_cl, q_eq, q_lt, q_le, q_9, q_b10, q_b01, Nat.one_ne_zero, eq_self, if_true, if_false, pb_b_some, hc.at]
theorem c_hay (hc : pb_CR (μ.1 (h + 1)) 0 a) {p : Nat} (hp : p < 4) : pX5_hayOf h (nI p) μ = some (nI (a (3 + p)), μ) := by
  simp (disch := omega) only [pX5_hayOf, lz, q_add, q_in, q_cl, q_eq, q_lt, q_le, q_9, q_b10, q_b01, Nat.one_ne_zero, eq_self, if_true, if_false, pb_b_some, hc.lo]
theorem c_mon (hc : pb_CR (μ.1 (h + 1)) 0 a) {p : Nat} (hp : p < 4) : pX5_moneyOf h (nI p) μ = some (nI (a (7 + p)), μ) := by
  simp (disch := omega) only [pX5_moneyOf, lz, q_add, q_in, q_cl, q_eq, q_lt, q_le, q_9, q_b10, q_b01, Nat.one_ne_zero, eq_self, if_true, if_false, pb_b_some, hc.lo]
theorem c_people (hc : pb_CR (μ.1 (h + 1)) 0 a) : pX5_people h μ = some (nI (vP a), μ) := by
  simp (disch := omega) only [pX5_people, hc.lo, vP]
theorem c_beasts (hc : pb_CR (μ.1 (h + 1)) 0 a) : pX5_beasts h μ = some (nI (vB a), μ) := by
  simp (disch := omega) only [pX5_beasts, hc.lo, vB]
theorem c_day (hc : pb_CR (μ.1 (h + 1)) 0 a) : pX5_dayNow h μ = some (nI (a 2), μ) := by
  simp (disch := omega) only [pX5_dayNow, hc.lo]
theorem c_debt (hc : pb_CR (μ.1 (h + 1)) 0 a) {i j : Nat} (hi : i < 4) (hj : j < 4) : pX5_debt h (nI i) (nI j) μ = some (nI (vDebt a i j), μ) := by
  unfold pX5_debt
  rw [ix_debt]
  simp (disch := omega) only [lz, q_add, q_in, q_cl, q_eq, q_lt, q_le, q_9, q_b10, q_b01, Nat.one_ne_zero, eq_self, if_true, if_false, pb_b_some, hc.lo, vDebt]
theorem c_dead (hc : pb_CR (μ.1 (h + 1)) 0 a) (hs : vS a) {b : Nat} (hb : b < 5) : pX5_isDead h (nI b) μ = some (nI (if a (32 + b) = 0 then 1 else 0), μ) := by
  have h1 := hs (32 + b) (by omega)
  simp (disch := omega) only [pX5_isDead, c_wor hc hb, lz, q_add, q_in, q_cl, q_eq, q_lt, q_le, q_9, q_b10, q_b01, Nat.one_ne_zero, eq_self, if_true, if_false, pb_b_some]
  split <;> rfl
theorem c_shut (hc : pb_CR (μ.1 (h + 1)) 0 a) (hs : vS a) {b : Nat} (hb : b < 5) : pX5_isShut h (nI b) μ = some (nI (if a (42 + b) = 0 then 0 else 1), μ) := by
  have h1 := hs (42 + b) (by omega)
  cases e : a (42 + b) with
  | zero =>
    simp (disch := omega) only [pX5_isShut, c_hol hc hb, e, pb_e_0, lz, q_add, q_in, q_cl, q_eq, q_lt, q_le, q_9, q_b10, q_b01, Nat.one_ne_zero, eq_self, if_true, if_false, pb_b_some]
  | succ n =>
    simp (disch := omega) only [pX5_isShut, c_hol hc hb, e, pb_e_s, q_n9, lz, q_add, q_in, q_cl, q_eq, q_lt, q_le, q_9, q_b10, q_b01, Nat.one_ne_zero, eq_self, if_true, if_false, pb_b_some]
    simp
theorem c_fmod {d : Nat} (hd : d < 2000000000) : pJ9_floorMod_7cf53 (nI d) (nI 12) μ = some (nI (d % 12), μ) := by
  have h0 : ¬ nI 12 = 0 := by decide
  have h1 : nI 0 ≤ nI d ^^^ nI 12 := by
    rw [q_xor]
    have : d ^^^ 12 < 2 ^ 31 := Nat.xor_lt_two_pow (by omega) (by omega)
    exact nI_pos' this
  unfold pJ9_floorMod_7cf53
  rw [if_neg h0, if_pos (show (0 : Int32) ≤ nI d ^^^ nI 12 from h1), q_rem hd (by omega) (by omega)]
theorem c_march (hc : pb_CR (μ.1 (h + 1)) 0 a) (hs : vS a) : pX5_isMarch h μ = some (nI (if a 2 % 12 < 3 then 1 else 0), μ) := by
  have h1 := hs 2 (by omega)
  have h2 : a 2 % 12 < 12 := Nat.mod_lt _ (by omega)
  simp (disch := omega) only [pX5_isMarch, c_day hc, lz, q_add, q_in, q_cl, q_eq, q_lt, q_le, q_9, q_b10, q_b01, Nat.one_ne_zero, eq_self, if_true, if_false, pb_b_some, c_fmod]
  by_cases e : 3 ≤ a 2 % 12
  · rw [if_pos e, if_neg (by omega)]
  · rw [if_neg e, if_pos (by omega)]
theorem c_clause (hc : pb_CR (μ.1 (h + 1)) 0 a) (hs : vS a) {p b : Nat} (hp : p < 4) (hb : b < 5) (ho : a (27 + b) < 4) : pX5_clauseFor h (nI p) (nI b) μ = some (nI (vClause a p b), μ) := by
  have h2 := hs (37 + b) (by omega)
  have h3 : vDebt a (a (27 + b)) p < 1000000 := hs _ (by omega)
  unfold vClause
  simp (disch := omega) only [pX5_clauseFor, c_own hc hb, c_dead hc hs hb, c_shut hc hs hb, c_knd hc hb, c_march hc hs, c_debt hc ho hp, lz, q_add, q_in, q_cl, q_eq, q_lt, q_le, q_9, q_b10, q_b01, Nat.one_ne_zero, eq_self, if_true, if_false, pb_b_some]
  by_cases e1 : a (27 + b) = p
  · simp only [e1, if_true]
  · by_cases e2 : a (32 + b) = 0
    · simp [e1, e2]
    · by_cases e3 : a (42 + b) = 0
      · by_cases e4 : vDebt a (a (27 + b)) p = 0
        · simp [e1, e2, e3, e4]
        · by_cases e5 : a (37 + b) = 1
          · by_cases e6 : a 2 % 12 < 3
            · simp [e1, e2, e3, e4, e5, e6]
            · simp [e1, e2, e3, e4, e5, e6]
          · by_cases e6 : a (37 + b) = 3
            · simp [e1, e2, e3, e4, e5, e6]
            · simp [e1, e2, e3, e4, e5, e6]
      · simp [e1, e2, e3]
end CV
