section M0
variable {μ : pb_M} {a : pb_Vg}
theorem m0_own (h : pb_MM μ 0 a) {b : Nat} (hb : b < 5) : μ.1 21 (8 + b) = nI (a (27 + b)) := by have := h.1.own hb; simpa using this
theorem m0_wor (h : pb_MM μ 0 a) {b : Nat} (hb : b < 5) : μ.1 21 (13 + b) = nI (a (32 + b)) := by have := h.1.wor hb; simpa using this
theorem m0_hol (h : pb_MM μ 0 a) {b : Nat} (hb : b < 5) : μ.1 21 (18 + b) = pb_e (42 + b) (a (42 + b)) := by have := h.1.hol hb; simpa using this
theorem m0_dys (h : pb_MM μ 0 a) {b : Nat} (hb : b < 5) : μ.1 21 (23 + b) = nI (a (47 + b)) := by have := h.1.dys hb; simpa using this
theorem m0_debt (h : pb_MM μ 0 a) {i j : Nat} (hi : i < 4) (hj : j < 4) : μ.1 21 (45 * 0 + 28 + 4 * i + j) = nI (vDebt a i j) := h.1.debt hi hj
theorem m0_day (h : pb_MM μ 0 a) : μ.1 21 44 = nI (a 2) := by have := h.1.day; simpa using this
theorem m0_hay (h : pb_MM μ 0 a) {p : Nat} (hp : p < 4) : μ.1 21 p = nI (a (3 + p)) := by have := h.1.hay hp; simpa using this
theorem m0_mon (h : pb_MM μ 0 a) {p : Nat} (hp : p < 4) : μ.1 21 (4 + p) = nI (a (7 + p)) := by have := h.1.mon hp; simpa using this
end M0
section OPS
variable {K : Nat} {S : pb_S}
theorem InvA.s (hA : InvA K S) : vS S.1 := hA.1.1.s (by have := hA.1.2; omega)
theorem op_owes (hA : InvA K S) (hK : K + 1 ≤ 64) (x y : Int32) : pOp K S (pX6_owes x y) (pX7_owes x y) := by
  have hP := hA.1.1.1.1
  by_cases h1 : inR x (vP S.1) = true
  · by_cases h2 : inR y (vP S.1) = true
    · obtain ⟨p, hp, rfl⟩ := inR_of h1 (by omega)
      obtain ⟨q, hq, rfl⟩ := inR_of h2 (by omega)
      refine pOp.read hA hK (nI (vDebt S.1 p q)) (pC.same fun μ hC => ?_) (pM.same fun μ hM => ?_)
      · have hc : pb_CR (μ.1 (4 + 1)) 0 S.1 := hC.1
        simp (disch := omega) only [pX6_owes, c_hasP hc, c_debt hc (show p < 4 by omega) (show q < 4 by omega), if_pos h1, if_pos h2, lz, q_add, q_in, q_cl, q_eq, q_lt, q_le, q_9, q_b10, q_b01, Nat.one_ne_zero, eq_self, if_true, if_false, pb_b_some]
      · simp (disch := omega) only [pX7_owes, m_isP hM.1.2.2.1 hP, if_pos h1, if_pos h2, m_debt, m0_debt hM.1 (show p < 4 by omega) (show q < 4 by omega), lz, q_add, q_in, q_cl, q_eq, q_lt, q_le, q_9, q_b10, q_b01, Nat.one_ne_zero, eq_self, if_true, if_false, pb_b_some]
    · refine pOp.read hA hK (-1) (pC.same fun μ hC => ?_) (pM.same fun μ hM => ?_)
      · have hc : pb_CR (μ.1 (4 + 1)) 0 S.1 := hC.1
        simp (disch := omega) only [pX6_owes, c_hasP hc, if_pos h1, if_neg h2, lz, q_add, q_in, q_cl, q_eq, q_lt, q_le, q_9, q_b10, q_b01, Nat.one_ne_zero, eq_self, if_true, if_false, pb_b_some]
      · simp (disch := omega) only [pX7_owes, m_isP hM.1.2.2.1 hP, if_pos h1, if_neg h2, lz, q_add, q_in, q_cl, q_eq, q_lt, q_le, q_9, q_b10, q_b01, Nat.one_ne_zero, eq_self, if_true, if_false, pb_b_some]
  · refine pOp.read hA hK (-1) (pC.same fun μ hC => ?_) (pM.same fun μ hM => ?_)
    · have hc : pb_CR (μ.1 (4 + 1)) 0 S.1 := hC.1
      simp (disch := omega) only [pX6_owes, c_hasP hc, if_neg h1, lz, q_add, q_in, q_cl, q_eq, q_lt, q_le, q_9, q_b10, q_b01, Nat.one_ne_zero, eq_self, if_true, if_false, pb_b_some]
    · simp (disch := omega) only [pX7_owes, m_isP hM.1.2.2.1 hP, if_neg h1, lz, q_add, q_in, q_cl, q_eq, q_lt, q_le, q_9, q_b10, q_b01, Nat.one_ne_zero, eq_self, if_true, if_false, pb_b_some]
theorem op_clause (hA : InvA K S) (hK : K + 1 ≤ 64) (x y : Int32) : pOp K S (pX6_clause x y) (pX7_clause x y) := by
  have hP := hA.1.1.1.1
  have hB := hA.1.1.1.2
  by_cases h1 : inR x (vP S.1) = true
  · by_cases h2 : inR y (vB S.1) = true
    · obtain ⟨p, hp, rfl⟩ := inR_of h1 (by omega)
      obtain ⟨q, hq, rfl⟩ := inR_of h2 (by omega)
      have ho := (hA.1.1.2.1 q hq).1
      refine pOp.read hA hK (nI (vClause S.1 p q)) (pC.same fun μ hC => ?_) (pM.same fun μ hM => ?_)
      · have hc : pb_CR (μ.1 (4 + 1)) 0 S.1 := hC.1
        simp (disch := omega) only [pX6_clause, c_hasP hc, c_hasB hc, c_clause hc hA.s (show p < 4 by omega) (show q < 5 by omega) (show S.1 (27 + q) < 4 by omega), if_pos h1, if_pos h2, lz, q_add, q_in, q_cl, q_eq, q_lt, q_le, q_9, q_b10, q_b01, Nat.one_ne_zero, eq_self, if_true, if_false, pb_b_some]
      · simp (disch := omega) only [pX7_clause, m_isP hM.1.2.2.1 hP, m_isB hM.1.2.2.2 hB, if_pos h1, if_pos h2, m_clause hM.1 hA.s (show 0 < 2 by omega) (show p < 4 by omega) hq hB (show S.1 (27 + q) < 4 by omega), lz, q_add, q_in, q_cl, q_eq, q_lt, q_le, q_9, q_b10, q_b01, Nat.one_ne_zero, eq_self, if_true, if_false, pb_b_some]
    · refine pOp.read hA hK (-1) (pC.same fun μ hC => ?_) (pM.same fun μ hM => ?_)
      · have hc : pb_CR (μ.1 (4 + 1)) 0 S.1 := hC.1
        simp (disch := omega) only [pX6_clause, c_hasP hc, c_hasB hc, if_pos h1, if_neg h2, lz, q_add, q_in, q_cl, q_eq, q_lt, q_le, q_9, q_b10, q_b01, Nat.one_ne_zero, eq_self, if_true, if_false, pb_b_some]
      · simp (disch := omega) only [pX7_clause, m_isP hM.1.2.2.1 hP, m_isB hM.1.2.2.2 hB, if_pos h1, if_neg h2, lz, q_add, q_in, q_cl, q_eq, q_lt, q_le, q_9, q_b10, q_b01, Nat.one_ne_zero, eq_self, if_true, if_false, pb_b_some]
  · refine pOp.read hA hK (-1) (pC.same fun μ hC => ?_) (pM.same fun μ hM => ?_)
    · have hc : pb_CR (μ.1 (4 + 1)) 0 S.1 := hC.1
      simp (disch := omega) only [pX6_clause, c_hasP hc, if_neg h1, lz, q_add, q_in, q_cl, q_eq, q_lt, q_le, q_9, q_b10, q_b01, Nat.one_ne_zero, eq_self, if_true, if_false, pb_b_some]
    · simp (disch := omega) only [pX7_clause, m_isP hM.1.2.2.1 hP, if_neg h1, lz, q_add, q_in, q_cl, q_eq, q_lt, q_le, q_9, q_b10, q_b01, Nat.one_ne_zero, eq_self, if_true, if_false, pb_b_some]
theorem op_beast (hA : InvA K S) (hK : K + 1 ≤ 64) (x y : Int32) : pOp K S (pX6_beast x y) (pX7_beast x y) := by
  have hB := hA.1.1.1.2
  by_cases h1 : inR x (vB S.1) = true
  · obtain ⟨b, hb, rfl⟩ := inR_of h1 (by omega)
    have hb5 : b < 5 := by omega
    have hs := hA.s
    have s1 := hs (32 + b) (by omega)
    refine pOp.read hA hK (if y = 0 then nI (S.1 (27 + b)) else if y = 1 then nI (S.1 (32 + b)) else if y = 2 then nI (S.1 (37 + b)) else if y = 3 then pb_e (42 + b) (S.1 (42 + b)) else if y = 4 then nI (S.1 (47 + b)) else if y = 5 then nI (if S.1 (32 + b) = 0 then 1 else 0) else -2) (pC.same fun μ hC => ?_) (pM.same fun μ hM => ?_)
    · have hc : pb_CR (μ.1 (4 + 1)) 0 S.1 := hC.1
      simp (disch := omega) only [pX6_beast, c_hasB hc, c_own hc hb5, c_wor hc hb5, c_knd hc hb5, c_hol hc hb5, c_dys hc hb5, c_dead hc hs hb5, if_pos h1, lz, q_add, q_in, q_cl, q_eq, q_lt, q_le, q_9, q_b10, q_b01, Nat.one_ne_zero, eq_self, if_true, if_false, pb_b_some]
      repeat' split
      all_goals first | rfl | simp_all
    · simp (disch := omega) only [pX7_beast, m_isB hM.1.2.2.2 hB, m0_own hM.1 hb5, m0_wor hM.1 hb5, m0_hol hM.1 hb5, m0_dys hM.1 hb5, hM.1.2.1 b hb, if_pos h1, lz, q_add, q_in, q_cl, q_eq, q_lt, q_le, q_9, q_b10, q_b01, Nat.one_ne_zero, eq_self, if_true, if_false, pb_b_some]
      repeat' split
      all_goals first | rfl | simp_all
  · refine pOp.read hA hK (-1) (pC.same fun μ hC => ?_) (pM.same fun μ hM => ?_)
    · have hc : pb_CR (μ.1 (4 + 1)) 0 S.1 := hC.1
      simp (disch := omega) only [pX6_beast, c_hasB hc, if_neg h1, lz, q_add, q_in, q_cl, q_eq, q_lt, q_le, q_9, q_b10, q_b01, Nat.one_ne_zero, eq_self, if_true, if_false, pb_b_some]
    · simp (disch := omega) only [pX7_beast, m_isB hM.1.2.2.2 hB, if_neg h1, lz, q_add, q_in, q_cl, q_eq, q_lt, q_le, q_9, q_b10, q_b01, Nat.one_ne_zero, eq_self, if_true, if_false, pb_b_some]
theorem op_seed (hA : InvA K S) (hK : K + 1 ≤ 64) (x : Int64) : pOp K S (pX6_seed x) (pX7_seed x) := by
  refine ⟨S.2.2.2.2.2.2, (S.1, S.2.1, S.2.2.1, S.2.2.2.1, S.2.2.2.2.1, S.2.2.2.2.2.1, x), fun μ hC => ?_, fun μ hM => ?_, hA.mono hK⟩
  · refine ⟨pb_sL μ 0 x, by rw [pX6_seed, hC.2.2.2.2], ⟨hC.1, hC.2.1, hC.2.2.1, hC.2.2.2.1, by simp [pb_sL]⟩, ⟨fun h _ => rfl, by simp [pb_sL]⟩⟩
  · refine ⟨pb_sL μ 19 x, by rw [pX7_seed, hM.2.2.2.2], ⟨hM.1, hM.2.1, hM.2.2.1, hM.2.2.2.1, by simp [pb_sL]⟩, ⟨fun h _ => rfl, by simp [pb_sL]⟩⟩
end OPS
