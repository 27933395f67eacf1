/-! THE REFERENCE'S VILLAGE at a level lv (0: what is, 1: what is tried) -/
def pb_Fr (r r' : Nat → Int32) (o : Nat) : Prop := ∀ j, (j < o ∨ o + 45 ≤ j) → r' j = r j
def pb_MM (μ : pb_M) (lv : Nat) (a : pb_Vg) : Prop := pb_MR (μ.1 21) (45 * lv) a ∧ (∀ b, b < vB a → μ.1 20 b = nI (a (37 + b))) ∧ μ.1 19 0 = nI (vP a) ∧ μ.1 19 1 = nI (vB a)
theorem pb_Fr.rf {r : Nat → Int32} {o : Nat} : pb_Fr r r o := fun _ _ => rfl
theorem pb_Fr.tr {r r' r'' : Nat → Int32} {o : Nat} (h : pb_Fr r r' o) (h' : pb_Fr r' r'' o) : pb_Fr r r'' o := fun j hj => (h' j hj).trans (h j hj)
theorem pb_Fr.up {r : Nat → Int32} {o k : Nat} {x : Int32} (h1 : o ≤ k) (h2 : k < o + 45) : pb_Fr r (upd r k x) o := fun j hj => upd_ne (by omega)
section MR
variable {r : Nat → Int32} {o : Nat} {a : pb_Vg}
theorem pb_MR.own (h : pb_MR r o a) {b : Nat} (hb : b < 5) : r (o + 8 + b) = nI (a (27 + b)) := by
  have e : pb_pi (8 + b) = 27 + b := by unfold pb_pi; rw [if_neg (by omega), if_pos (by omega)]; omega
  rw [Nat.add_assoc, h (8 + b) (by omega), e, pb_e_lo (by omega)]
theorem pb_MR.wor (h : pb_MR r o a) {b : Nat} (hb : b < 5) : r (o + 13 + b) = nI (a (32 + b)) := by
  have e : pb_pi (13 + b) = 32 + b := by unfold pb_pi; rw [if_neg (by omega), if_pos (by omega)]; omega
  rw [Nat.add_assoc, h (13 + b) (by omega), e, pb_e_lo (by omega)]
theorem pb_MR.hol (h : pb_MR r o a) {b : Nat} (hb : b < 5) : r (o + 18 + b) = pb_e (42 + b) (a (42 + b)) := by
  have e : pb_pi (18 + b) = 42 + b := by unfold pb_pi; rw [if_neg (by omega), if_neg (by omega), if_pos (by omega)]; omega
  rw [Nat.add_assoc, h (18 + b) (by omega), e]
theorem pb_MR.dys (h : pb_MR r o a) {b : Nat} (hb : b < 5) : r (o + 23 + b) = nI (a (47 + b)) := by
  have e : pb_pi (23 + b) = 47 + b := by unfold pb_pi; rw [if_neg (by omega), if_neg (by omega), if_pos (by omega)]; omega
  rw [Nat.add_assoc, h (23 + b) (by omega), e, pb_e_lo (by omega)]
theorem pb_MR.debt (h : pb_MR r o a) {i j : Nat} (hi : i < 4) (hj : j < 4) : r (o + 28 + 4 * i + j) = nI (vDebt a i j) := by
  have e : pb_pi (28 + 4 * i + j) = 11 + 4 * i + j := by unfold pb_pi; rw [if_neg (by omega), if_neg (by omega), if_neg (by omega), if_pos (by omega)]; omega
  rw [show o + 28 + 4 * i + j = o + (28 + 4 * i + j) by omega, h (28 + 4 * i + j) (by omega), e, pb_e_lo (by omega)]
  rfl
theorem pb_MR.day (h : pb_MR r o a) : r (o + 44) = nI (a 2) := by
  rw [h 44 (by omega), show pb_pi 44 = 2 from rfl, pb_e_lo (by omega)]
theorem pb_MR.hay (h : pb_MR r o a) {p : Nat} (hp : p < 4) : r (o + p) = nI (a (3 + p)) := by
  have e : pb_pi p = 3 + p := by unfold pb_pi; rw [if_pos (by omega)]; omega
  rw [h p (by omega), e, pb_e_lo (by omega)]
theorem pb_MR.mon (h : pb_MR r o a) {p : Nat} (hp : p < 4) : r (o + 4 + p) = nI (a (7 + p)) := by
  have e : pb_pi (4 + p) = 7 + p := by unfold pb_pi; rw [if_pos (by omega)]; omega
  rw [Nat.add_assoc, h (4 + p) (by omega), e, pb_e_lo (by omega)]
theorem pb_pi_inj {i j : Nat} (hi : i < 45) (hj : j < 45) (h : pb_pi i = pb_pi j) : i = j := by
  unfold pb_pi at h
  repeat' split at h
  all_goals omega
theorem pb_MR.set (h : pb_MR r o a) {j x : Nat} {v : Int32} (hj : j < 45) (hv : v = pb_e (pb_pi j) x) : pb_MR (upd r (o + j) v) o (pb_u a (pb_pi j) x) := by
  intro k hk
  by_cases e : k = j
  · subst e
    rw [upd_eq, pb_u_eq, hv]
  · rw [upd_ne (by omega), pb_u_ne (fun q => e (pb_pi_inj hk hj q))]
    exact h k hk
theorem mu_own (h : pb_MR r o a) {b x : Nat} (hb : b < 5) : pb_MR (upd r (o + 8 + b) (nI x)) o (pb_u a (27 + b) x) := by
  have e : pb_pi (8 + b) = 27 + b := by unfold pb_pi; rw [if_neg (by omega), if_pos (by omega)]; omega
  have := h.set (j := 8 + b) (x := x) (v := nI x) (by omega) (by rw [e, pb_e_lo (by omega)])
  rwa [e, ← Nat.add_assoc] at this
theorem mu_wor (h : pb_MR r o a) {b x : Nat} (hb : b < 5) : pb_MR (upd r (o + 13 + b) (nI x)) o (pb_u a (32 + b) x) := by
  have e : pb_pi (13 + b) = 32 + b := by unfold pb_pi; rw [if_neg (by omega), if_pos (by omega)]; omega
  have := h.set (j := 13 + b) (x := x) (v := nI x) (by omega) (by rw [e, pb_e_lo (by omega)])
  rwa [e, ← Nat.add_assoc] at this
theorem mu_hol (h : pb_MR r o a) {b x : Nat} {v : Int32} (hb : b < 5) (hv : v = pb_e (42 + b) x) : pb_MR (upd r (o + 18 + b) v) o (pb_u a (42 + b) x) := by
  have e : pb_pi (18 + b) = 42 + b := by unfold pb_pi; rw [if_neg (by omega), if_neg (by omega), if_pos (by omega)]; omega
  have := h.set (j := 18 + b) (x := x) (v := v) (by omega) (by rw [e]; exact hv)
  rwa [e, ← Nat.add_assoc] at this
theorem mu_dys (h : pb_MR r o a) {b x : Nat} (hb : b < 5) : pb_MR (upd r (o + 23 + b) (nI x)) o (pb_u a (47 + b) x) := by
  have e : pb_pi (23 + b) = 47 + b := by unfold pb_pi; rw [if_neg (by omega), if_neg (by omega), if_pos (by omega)]; omega
  have := h.set (j := 23 + b) (x := x) (v := nI x) (by omega) (by rw [e, pb_e_lo (by omega)])
  rwa [e, ← Nat.add_assoc] at this
theorem mu_debt (h : pb_MR r o a) {i j x : Nat} (hi : i < 4) (hj : j < 4) : pb_MR (upd r (o + 28 + 4 * i + j) (nI x)) o (pb_u a (11 + 4 * i + j) x) := by
  have e : pb_pi (28 + 4 * i + j) = 11 + 4 * i + j := by unfold pb_pi; rw [if_neg (by omega), if_neg (by omega), if_neg (by omega), if_pos (by omega)]; omega
  have := h.set (j := 28 + 4 * i + j) (x := x) (v := nI x) (by omega) (by rw [e, pb_e_lo (by omega)])
  rwa [e, show o + (28 + 4 * i + j) = o + 28 + 4 * i + j by omega] at this
theorem mu_day (h : pb_MR r o a) {x : Nat} : pb_MR (upd r (o + 44) (nI x)) o (pb_u a 2 x) := h.set (j := 44) (x := x) (v := nI x) (by omega) (by rw [show pb_pi 44 = 2 from rfl, pb_e_lo (by omega)])
theorem mu_hay (h : pb_MR r o a) {p x : Nat} (hp : p < 4) : pb_MR (upd r (o + p) (nI x)) o (pb_u a (3 + p) x) := by
  have e : pb_pi p = 3 + p := by unfold pb_pi; rw [if_pos (by omega)]; omega
  have := h.set (j := p) (x := x) (v := nI x) (by omega) (by rw [e, pb_e_lo (by omega)])
  rwa [e] at this
theorem mu_mon (h : pb_MR r o a) {p x : Nat} (hp : p < 4) : pb_MR (upd r (o + 4 + p) (nI x)) o (pb_u a (7 + p) x) := by
  have e : pb_pi (4 + p) = 7 + p := by unfold pb_pi; rw [if_pos (by omega)]; omega
  have := h.set (j := 4 + p) (x := x) (v := nI x) (by omega) (by rw [e, pb_e_lo (by omega)])
  rwa [e, ← Nat.add_assoc] at this
end MR
theorem m_in {μ : pb_M} {x y z : Int64} : pX7_in x y z μ = some (nI (if y ≤ x ∧ x ≤ z then 1 else 0), μ) := by
  unfold pX7_in
  by_cases h1 : x < y
  · rw [if_pos ((lg_cmp_lt x y).mpr h1), if_neg (fun q => absurd q.1 (Int64.not_le.mpr h1))]
    rfl
  · rw [if_neg (fun q => h1 ((lg_cmp_lt x y).mp q))]
    by_cases h2 : z < x
    · rw [if_pos ((lg_cmp_gt x z).mpr h2), if_neg (fun q => absurd q.2 (Int64.not_le.mpr h2))]
      rfl
    · rw [if_neg (fun q => h2 ((lg_cmp_gt x z).mp q)), if_pos ⟨Int64.not_lt.mp h1, Int64.not_lt.mp h2⟩]
      rfl
theorem l_le {x y : Int32} : (x.toInt64 ≤ y.toInt64) = (x ≤ y) := propext (by rw [Int64.le_iff_toInt_le, Int32.le_iff_toInt_le, Int32.toInt_toInt64, Int32.toInt_toInt64])
theorem l_0 : (0 : Int64) = (0 : Int32).toInt64 := rfl
theorem le_pred {x : Int32} {n : Nat} (hn : n < 1000000) : (x ≤ nI n - (1 : Int32)) = (x < nI n) := by
  have h : (nI n - nI 1).toInt = (n : Int) - 1 := by
    have := pk_sub_toInt (a := n) (b := 1) (by omega) (by omega)
    simpa using this
  apply propext
  rw [Int32.le_iff_toInt_le, Int32.lt_iff_toInt_lt, show nI n - (1 : Int32) = nI n - nI 1 from rfl, h, nI_toInt (by omega)]
  omega
section MV
variable {μ : pb_M} {lv : Nat} {a : pb_Vg}
theorem m_isP (hP : μ.1 19 0 = nI (vP a)) (h4 : vP a ≤ 4) {x : Int32} : pX7_isPerson x μ = some (nI (if inR x (vP a) = true then 1 else 0), μ) := by
  unfold pX7_isPerson
  rw [m_in, pb_b_some, hP, l_0]
  simp only [l_le, le_pred (show vP a < 1000000 by omega)]
  unfold inR
  simp only [Bool.and_eq_true, decide_eq_true_eq]
  by_cases h : 0 ≤ x ∧ x < nI (vP a)
  · rw [if_pos h]; exact if_pos (Or.inr rfl)
  · rw [if_neg h]; exact if_pos (Or.inl rfl)
theorem m_isB (hB : μ.1 19 1 = nI (vB a)) (h5 : vB a ≤ 5) {x : Int32} : pX7_isBeast x μ = some (nI (if inR x (vB a) = true then 1 else 0), μ) := by
  unfold pX7_isBeast
  rw [m_in, pb_b_some, hB, l_0]
  simp only [l_le, le_pred (show vB a < 1000000 by omega)]
  unfold inR
  simp only [Bool.and_eq_true, decide_eq_true_eq]
  by_cases h : 0 ≤ x ∧ x < nI (vB a)
  · rw [if_pos h]; exact if_pos (Or.inr rfl)
  · rw [if_neg h]; exact if_pos (Or.inl rfl)
theorem m_debt {i j : Nat} : pX7_debt (nI lv) (nI i) (nI j) μ = some (nI (45 * lv + 28 + 4 * i + j), μ) := by
  simp only [pX7_debt, lz, q_mul, q_add]
theorem m_isIn (hm : pb_MR (μ.1 21) (45 * lv) a) (hs : vS a) (hl : lv < 2) {b : Nat} (hb : b < 5) : pX7_isIn (nI lv) (nI b) μ = some (nI (if a (42 + b) = 0 then 0 else 1), μ) := by
  have h1 := hs (42 + b) (by omega)
  cases e : a (42 + b) with
  | zero =>
    simp (disch := omega) only [pX7_isIn, q_mul, lz, q_add, q_in, q_cl, q_eq, q_lt, q_le, q_9, q_b10, q_b01, Nat.one_ne_zero, eq_self, if_true, if_false, pb_b_some, hm.hol hb, e, pb_e_0]
  | succ n =>
    simp (disch := omega) only [pX7_isIn, q_mul, lz, q_add, q_in, q_cl, q_eq, q_lt, q_le, q_9, q_b10, q_b01, Nat.one_ne_zero, eq_self, if_true, if_false, pb_b_some, hm.hol hb, e, pb_e_s]
    simp
theorem m_clause (hm : pb_MM μ lv a) (hs : vS a) (hl : lv < 2) {p b : Nat} (hp : p < 4) (hb : b < vB a) (hB : vB a ≤ 5) (ho : a (27 + b) < 4) : pX7_clauseOn (nI lv) (nI p) (nI b) μ = some (nI (vClause a p b), μ) := by
  obtain ⟨hr, hk, -, -⟩ := hm
  have h2 := hs (37 + b) (by omega)
  have h3 : vDebt a (a (27 + b)) p < 1000000 := hs _ (by omega)
  have h4 := hs (32 + b) (by omega)
  have h5 := hs 2 (by omega)
  have h6 : a 2 % 12 < 12 := Nat.mod_lt _ (by omega)
  unfold vClause
  simp (disch := omega) only [pX7_clauseOn, q_mul, lz, q_add, q_in, q_cl, q_eq, q_lt, q_le, q_9, q_b10, q_b01, Nat.one_ne_zero, eq_self, if_true, if_false, pb_b_some, hr.own (show b < 5 by omega), hr.wor (show b < 5 by omega), m_isIn hr hs hl (show b < 5 by omega), m_debt, hr.debt ho hp, hk b hb, hr.day, q_rem]
  by_cases e1 : a (27 + b) = p
  · simp only [e1, if_true]
  · by_cases e2 : a (32 + b) = 0
    · simp [e1, e2]
    · by_cases e3 : a (42 + b) = 0
      · by_cases e4 : vDebt a (a (27 + b)) p = 0
        · simp [e1, e2, e3, e4]
        · by_cases e5 : a (37 + b) = 1
          · by_cases e6 : a 2 % 12 < 3
            · simp [e1, e2, e3, e4, e5, e6, show ¬ 3 ≤ a 2 % 12 by omega]
            · simp [e1, e2, e3, e4, e5, e6, show 3 ≤ a 2 % 12 by omega]
          · by_cases e6 : a (37 + b) = 3
            · simp [e1, e2, e3, e4, e5, e6]
            · simp [e1, e2, e3, e4, e5, e6]
      · simp [e1, e2, e3]
theorem m_shutOn (hm : pb_MR (μ.1 21) (45 * lv) a) (hl : lv < 2) {b x : Nat} {v : Int32} (hb : b < 5) (hv : v = pb_e (42 + b) x) : ∃ r, pX7_shutOn (nI lv) (nI b) v μ = some ((), pb_sA μ 21 r) ∧ pb_MR r (45 * lv) (pb_u (pb_u a (42 + b) x) (47 + b) 0) ∧ pb_Fr (μ.1 21) r (45 * lv) := by
  refine ⟨upd (upd (μ.1 21) (45 * lv + 18 + b) v) (45 * lv + 23 + b) (nI 0), ?_, mu_dys (mu_hol hm hb hv) hb, (pb_Fr.up (by omega) (by omega)).tr (pb_Fr.up (by omega) (by omega))⟩
  simp (disch := omega) only [pX7_shutOn, q_mul, lz, q_add, q_in, q_cl, q_eq, q_lt, q_le, q_9, q_b10, q_b01, Nat.one_ne_zero, eq_self, if_true, if_false, pb_b_some, pb_sA_sA, pb_sA_eq]
theorem m_shut (hm : pb_MR (μ.1 21) (45 * lv) a) (hl : lv < 2) {p b : Nat} (hb : b < 5) : ∃ r, pX7_shutOn (nI lv) (nI b) (nI p) μ = some ((), pb_sA μ 21 r) ∧ pb_MR r (45 * lv) (vShut a p b) ∧ pb_Fr (μ.1 21) r (45 * lv) := m_shutOn hm hl hb (x := p + 1) (by rw [pb_e_s (by omega)])
theorem m_home (hm : pb_MR (μ.1 21) (45 * lv) a) (hl : lv < 2) {b : Nat} (hb : b < 5) : ∃ r, pX7_shutOn (nI lv) (nI b) (-nI 9) μ = some ((), pb_sA μ 21 r) ∧ pb_MR r (45 * lv) (vHome a b) ∧ pb_Fr (μ.1 21) r (45 * lv) := m_shutOn hm hl hb (x := 0) (by rw [pb_e_0 (by omega)]; rfl)
theorem m_add (hm : pb_MR (μ.1 21) (45 * lv) a) (hl : lv < 2) {i j x : Nat} (hi : i < 4) (hj : j < 4) (hx : x < 1000000) (hd : vDebt a i j < 1000000) : ∃ r, pX7_addOn (nI lv) (nI i) (nI j) (nI x) μ = some ((), pb_sA μ 21 r) ∧ pb_MR r (45 * lv) (vAdd a i j x) ∧ pb_Fr (μ.1 21) r (45 * lv) := by
  refine ⟨upd (μ.1 21) (45 * lv + 28 + 4 * i + j) (nI (min 99 (vDebt a i j + x))), ?_, mu_debt hm hi hj, pb_Fr.up (by omega) (by omega)⟩
  simp (disch := omega) only [pX7_addOn, m_debt, lz, q_add, q_in, q_cl, q_eq, q_lt, q_le, q_9, q_b10, q_b01, Nat.one_ne_zero, eq_self, if_true, if_false, pb_b_some, hm.debt hi hj, Nat.zero_le]
  by_cases e : vDebt a i j + x ≤ 99
  · rw [if_pos e, Nat.min_eq_right (by omega)]
  · rw [if_neg e, Nat.min_eq_left (by omega)]
theorem m_less (hm : pb_MR (μ.1 21) (45 * lv) a) (hl : lv < 2) {i j x : Nat} (hi : i < 4) (hj : j < 4) (hx : x < 1000000) (hd : vDebt a i j ≤ 99) : ∃ r, pX7_addOn (nI lv) (nI i) (nI j) (-nI x) μ = some ((), pb_sA μ 21 r) ∧ pb_MR r (45 * lv) (vLess a i j x) ∧ pb_Fr (μ.1 21) r (45 * lv) := by
  refine ⟨upd (μ.1 21) (45 * lv + 28 + 4 * i + j) (nI (vDebt a i j - x)), ?_, mu_debt hm hi hj, pb_Fr.up (by omega) (by omega)⟩
  simp (disch := omega) only [pX7_addOn, m_debt, lz, q_add, q_in, q_cl, q_eq, q_lt, q_le, q_9, q_b10, q_b01, Nat.one_ne_zero, eq_self, if_true, if_false, pb_b_some, hm.debt hi hj, ← Int32.sub_eq_add_neg]
  by_cases e : x ≤ vDebt a i j
  · simp (disch := omega) only [q_sub e, lz, q_add, q_in, q_cl, q_eq, q_lt, q_le, q_9, q_b10, q_b01, Nat.one_ne_zero, eq_self, if_true, if_false, pb_b_some, Nat.zero_le]
    rw [if_pos (by omega)]
  · have h9 : nI (vDebt a i j) - nI x < (0 : Int32) := pk_sneg (by omega) (by omega)
    rw [if_pos (show nI (vDebt a i j) - nI x ≤ nI 99 from Int32.le_of_lt (Int32.lt_trans h9 (by decide))), if_neg (show ¬ nI 0 ≤ nI (vDebt a i j) - nI x from Int32.not_le.mpr h9), show vDebt a i j - x = 0 by omega]
end MV
