/-! THE CLASS'S VILLAGE, sets, sums and changes -/
def inR (x : Int32) (n : Nat) : Bool := decide (0 ≤ x) && decide (x < nI n)
theorem inR_of {x : Int32} {n : Nat} (h : inR x n = true) (hn : n < 2000000000) : ∃ p, p < n ∧ x = nI p := by
  unfold inR at h
  simp only [Bool.and_eq_true, decide_eq_true_eq] at h
  obtain ⟨j, hj, rfl⟩ := nI_of (x := x) (Int32.not_lt.mpr h.1)
  exact ⟨j, (nI_ltI hj (by omega)).mp h.2, rfl⟩
theorem inR_nI {p n : Nat} (hp : p < 2000000000) (hn : n < 2000000000) : inR (nI p) n = decide (p < n) := by
  unfold inR
  rw [decide_eq_true (nI_pos' (by omega)), Bool.true_and]
  simp only [q_lt hp hn]
theorem vClause_lt (a : pb_Vg) (p b : Nat) : vClause a p b < 7 := by
  unfold vClause
  repeat' split
  all_goals omega
section CV
variable {μ : pb_M} {h : Nat} {a : pb_Vg}
theorem c_hasP (hc : pb_CR (μ.1 (h + 1)) 0 a) {x : Int32} : pX5_hasPerson h x μ = some (nI (if inR x (vP a) = true then 1 else 0), μ) := by
  unfold inR
  simp only [pX5_hasPerson, c_people hc, pb_b_some, Bool.and_eq_true, decide_eq_true_eq]
  by_cases h1 : x < 0
  · simp [h1, Int32.not_le.mpr h1]; rfl
  · by_cases h2 : nI (vP a) ≤ x
    · simp [h1, h2, Int32.not_lt.mpr h2]; rfl
    · simp [h1, h2, Int32.not_le.mp h2, Int32.not_lt.mp h1]; rfl
theorem c_hasB (hc : pb_CR (μ.1 (h + 1)) 0 a) {x : Int32} : pX5_hasBeast h x μ = some (nI (if inR x (vB a) = true then 1 else 0), μ) := by
  unfold inR
  simp only [pX5_hasBeast, c_beasts hc, pb_b_some, Bool.and_eq_true, decide_eq_true_eq]
  by_cases h1 : x < 0
  · simp [h1, Int32.not_le.mpr h1]; rfl
  · by_cases h2 : nI (vB a) ≤ x
    · simp [h1, h2, Int32.not_lt.mpr h2]; rfl
    · simp [h1, h2, Int32.not_le.mp h2, Int32.not_lt.mp h1]; rfl
theorem c_ripe (hc : pb_CR (μ.1 (h + 1)) 0 a) (hs : vS a) {b : Nat} (hb : b < 5) : pX5_isRipe h (nI b) μ = some (nI (if a (42 + b) ≠ 0 ∧ 3 ≤ a (47 + b) then 1 else 0), μ) := by
  have h1 := hs (47 + b) (by omega)
  simp (disch := omega) only [pX5_isRipe, c_shut hc hs hb, c_dys hc hb, lz, q_add, q_in, q_cl, q_eq, q_lt, q_le, q_9, q_b10, q_b01, Nat.one_ne_zero, eq_self, if_true, if_false, pb_b_some]
  by_cases e1 : a (42 + b) = 0
  · simp [e1]
  · by_cases e2 : a (47 + b) < 3
    · simp [e1, e2, show ¬ 3 ≤ a (47 + b) by omega]
    · simp [e1, e2, show 3 ≤ a (47 + b) by omega]
theorem c_beastsOf (hc : pb_CR (μ.1 (h + 1)) 0 a) (hs : vS a) (hB : vB a ≤ 5) {p : Nat} (hp : p < 4) : pX5_beastsOf h (nI p) μ = some (nI (pb_bits (fun b => a (27 + b) == p) (vB a)), μ) := by
  unfold pX5_beastsOf
  exact lp_bits (fun n b s => pX5_beastsOf_L4 h (nI p) n (nI s) (nI b) μ) (fun b => a (27 + b) == p) (vB a) (fun s => some (nI s, μ)) (fun n s => by
    simp (disch := omega) only [pX5_beastsOf_L4, c_beasts hc, lz, q_add, q_in, q_cl, q_eq, q_lt, q_le, q_9, q_b10, q_b01, Nat.one_ne_zero, eq_self, if_true, if_false, pb_b_some, Nat.le_refl]) (fun n b s hb => by
    have h1 := hs (27 + b) (by omega)
    simp (disch := omega) only [pX5_beastsOf_L4, c_beasts hc, c_own hc (show b < 5 by omega), lz, q_add, q_in, q_cl, q_eq, q_lt, q_le, q_9, q_b10, q_b01, Nat.one_ne_zero, eq_self, if_true, if_false, pb_b_some, q_bit, q_or]
    rw [if_neg (by omega)]
    by_cases e : a (27 + b) = p <;> simp [e]) pb_F (pb_Fgt (by omega))
theorem c_shutB (hc : pb_CR (μ.1 (h + 1)) 0 a) (hs : vS a) (hB : vB a ≤ 5) : pX5_shutBeasts h μ = some (nI (pb_bits (fun b => a (42 + b) != 0) (vB a)), μ) := by
  unfold pX5_shutBeasts
  exact lp_bits (fun n b s => pX5_shutBeasts_L4 h n (nI s) (nI b) μ) (fun b => a (42 + b) != 0) (vB a) (fun s => some (nI s, μ)) (fun n s => by
    simp (disch := omega) only [pX5_shutBeasts_L4, c_beasts hc, lz, q_add, q_in, q_cl, q_eq, q_lt, q_le, q_9, q_b10, q_b01, Nat.one_ne_zero, eq_self, if_true, if_false, pb_b_some, Nat.le_refl]) (fun n b s hb => by
    simp (disch := omega) only [pX5_shutBeasts_L4, c_beasts hc, c_shut hc hs (show b < 5 by omega), lz, q_add, q_in, q_cl, q_eq, q_lt, q_le, q_9, q_b10, q_b01, Nat.one_ne_zero, eq_self, if_true, if_false, pb_b_some, q_bit, q_or]
    rw [if_neg (by omega)]
    by_cases e : a (42 + b) = 0 <;> simp [e]) pb_F (pb_Fgt (by omega))
theorem c_deadB (hc : pb_CR (μ.1 (h + 1)) 0 a) (hs : vS a) (hB : vB a ≤ 5) : pX5_deadBeasts h μ = some (nI (pb_bits (fun b => a (32 + b) == 0) (vB a)), μ) := by
  unfold pX5_deadBeasts
  exact lp_bits (fun n b s => pX5_deadBeasts_L4 h n (nI s) (nI b) μ) (fun b => a (32 + b) == 0) (vB a) (fun s => some (nI s, μ)) (fun n s => by
    simp (disch := omega) only [pX5_deadBeasts_L4, c_beasts hc, lz, q_add, q_in, q_cl, q_eq, q_lt, q_le, q_9, q_b10, q_b01, Nat.one_ne_zero, eq_self, if_true, if_false, pb_b_some, Nat.le_refl]) (fun n b s hb => by
    simp (disch := omega) only [pX5_deadBeasts_L4, c_beasts hc, c_dead hc hs (show b < 5 by omega), lz, q_add, q_in, q_cl, q_eq, q_lt, q_le, q_9, q_b10, q_b01, Nat.one_ne_zero, eq_self, if_true, if_false, pb_b_some, q_bit, q_or]
    rw [if_neg (by omega)]
    by_cases e : a (32 + b) = 0 <;> simp [e]) pb_F (pb_Fgt (by omega))
theorem c_tak (hc : pb_CR (μ.1 (h + 1)) 0 a) (hs : vS a) (hB : vB a ≤ 5) (ho : ∀ b, b < vB a → a (27 + b) < 4) {p : Nat} (hp : p < 4) : pX5_takableBy h (nI p) μ = some (nI (pb_bits (fun b => vClause a p b == 0) (vB a)), μ) := by
  unfold pX5_takableBy
  exact lp_bits (fun n b s => pX5_takableBy_L4 h (nI p) n (nI s) (nI b) μ) (fun b => vClause a p b == 0) (vB a) (fun s => some (nI s, μ)) (fun n s => by
    simp (disch := omega) only [pX5_takableBy_L4, c_beasts hc, lz, q_add, q_in, q_cl, q_eq, q_lt, q_le, q_9, q_b10, q_b01, Nat.one_ne_zero, eq_self, if_true, if_false, pb_b_some, Nat.le_refl]) (fun n b s hb => by
    have h1 := vClause_lt a p b
    simp (disch := omega) only [pX5_takableBy_L4, c_beasts hc, c_clause hc hs hp (show b < 5 by omega) (ho b hb), lz, q_add, q_in, q_cl, q_eq, q_lt, q_le, q_9, q_b10, q_b01, Nat.one_ne_zero, eq_self, if_true, if_false, pb_b_some, q_bit, q_or]
    rw [if_neg (by omega)]
    by_cases e : vClause a p b = 0 <;> simp [e]) pb_F (pb_Fgt (by omega))
theorem c_owedBy (hc : pb_CR (μ.1 (h + 1)) 0 a) (hP : vP a ≤ 4) {p : Nat} (hp : p < 4) : pX5_owedBy h (nI p) μ = some (nI (pb_sum (fun o => vDebt a p o) (vP a)), μ) := by
  unfold pX5_owedBy
  exact lp_sum (fun n b s => pX5_owedBy_L4 h (nI p) n (nI s) (nI b) μ) (fun b => vDebt a p b) (vP a) (fun s => some (nI s, μ)) (fun n s => by
    simp (disch := omega) only [pX5_owedBy_L4, c_people hc, lz, q_add, q_in, q_cl, q_eq, q_lt, q_le, q_9, q_b10, q_b01, Nat.one_ne_zero, eq_self, if_true, if_false, pb_b_some, Nat.le_refl]) (fun n b s hb => by
    simp (disch := omega) only [pX5_owedBy_L4, c_people hc, c_debt hc hp (show b < 4 by omega), lz, q_add, q_in, q_cl, q_eq, q_lt, q_le, q_9, q_b10, q_b01, Nat.one_ne_zero, eq_self, if_true, if_false, pb_b_some]
    rw [if_neg (by omega)]) pb_F (pb_Fgt (by omega))
theorem c_owedTo (hc : pb_CR (μ.1 (h + 1)) 0 a) (hP : vP a ≤ 4) {p : Nat} (hp : p < 4) : pX5_owedTo h (nI p) μ = some (nI (pb_sum (fun o => vDebt a o p) (vP a)), μ) := by
  unfold pX5_owedTo
  exact lp_sum (fun n b s => pX5_owedTo_L4 h (nI p) n (nI s) (nI b) μ) (fun b => vDebt a b p) (vP a) (fun s => some (nI s, μ)) (fun n s => by
    simp (disch := omega) only [pX5_owedTo_L4, c_people hc, lz, q_add, q_in, q_cl, q_eq, q_lt, q_le, q_9, q_b10, q_b01, Nat.one_ne_zero, eq_self, if_true, if_false, pb_b_some, Nat.le_refl]) (fun n b s hb => by
    simp (disch := omega) only [pX5_owedTo_L4, c_people hc, c_debt hc (show b < 4 by omega) hp, lz, q_add, q_in, q_cl, q_eq, q_lt, q_le, q_9, q_b10, q_b01, Nat.one_ne_zero, eq_self, if_true, if_false, pb_b_some]
    rw [if_neg (by omega)]) pb_F (pb_Fgt (by omega))
def vAll (a : pb_Vg) : Nat := pb_sum (fun p => pb_sum (fun o => vDebt a p o) (vP a)) (vP a)
theorem c_owedAll (hc : pb_CR (μ.1 (h + 1)) 0 a) (hP : vP a ≤ 4) : pX5_owedByAll h μ = some (nI (vAll a), μ) := by
  unfold pX5_owedByAll
  exact lp_sum (fun n b s => pX5_owedByAll_L4 h n (nI s) (nI b) μ) (fun b => pb_sum (fun o => vDebt a b o) (vP a)) (vP a) (fun s => some (nI s, μ)) (fun n s => by
    simp (disch := omega) only [pX5_owedByAll_L4, c_people hc, lz, q_add, q_in, q_cl, q_eq, q_lt, q_le, q_9, q_b10, q_b01, Nat.one_ne_zero, eq_self, if_true, if_false, pb_b_some, Nat.le_refl]) (fun n b s hb => by
    simp (disch := omega) only [pX5_owedByAll_L4, c_people hc, c_owedBy hc hP (show b < 4 by omega), lz, q_add, q_in, q_cl, q_eq, q_lt, q_le, q_9, q_b10, q_b01, Nat.one_ne_zero, eq_self, if_true, if_false, pb_b_some]
    rw [if_neg (by omega)]) pb_F (pb_Fgt (by omega))
/-! changes -/
theorem c_shutIn (hc : pb_CR (μ.1 (h + 1)) 0 a) {p b : Nat} (hb : b < 5) : ∃ f, pX5_shutIn h (nI p) (nI b) μ = some ((), pb_sA μ (h + 1) f) ∧ pb_CR f 0 (vShut a p b) := by
  refine ⟨upd (upd (μ.1 (h + 1)) (42 + b) (nI p)) (47 + b) (nI 0), ?_, (hc.upd (k := 42 + b) (x := p + 1) (by rw [pb_e_s (by omega)])).upd (k := 47 + b) (x := 0) (by rw [pb_e_lo (by omega)])⟩
  simp (disch := omega) only [pX5_shutIn, lz, q_add, q_in, q_cl, q_eq, q_lt, q_le, q_9, q_b10, q_b01, Nat.one_ne_zero, eq_self, if_true, if_false, pb_b_some, pb_sA_sA, pb_sA_eq]
theorem c_home (hc : pb_CR (μ.1 (h + 1)) 0 a) {b : Nat} (hb : b < 5) : ∃ f, pX5_goHome h (nI b) μ = some ((), pb_sA μ (h + 1) f) ∧ pb_CR f 0 (vHome a b) := by
  refine ⟨upd (upd (μ.1 (h + 1)) (42 + b) (-nI 9)) (47 + b) (nI 0), ?_, (hc.upd (k := 42 + b) (x := 0) (by rw [pb_e_0 (by omega)]; rfl)).upd (k := 47 + b) (x := 0) (by rw [pb_e_lo (by omega)])⟩
  simp (disch := omega) only [pX5_goHome, lz, q_add, q_in, q_cl, q_eq, q_lt, q_le, q_9, q_b10, q_b01, Nat.one_ne_zero, eq_self, if_true, if_false, pb_b_some, pb_sA_sA, pb_sA_eq]
theorem c_oweNow (hc : pb_CR (μ.1 (h + 1)) 0 a) {i j x : Nat} (hi : i < 4) (hj : j < 4) : ∃ f, pX5_oweNow h (nI i) (nI j) (nI x) μ = some ((), pb_sA μ (h + 1) f) ∧ pb_CR f 0 (pb_u a (11 + 4 * i + j) x) := by
  refine ⟨upd (μ.1 (h + 1)) (11 + 4 * i + j) (nI x), ?_, hc.upd (by rw [pb_e_lo (by omega)])⟩
  unfold pX5_oweNow
  rw [ix_debt]
  simp (disch := omega) only [lz, q_add, q_in, q_cl, q_eq, q_lt, q_le, q_9, q_b10, q_b01, Nat.one_ne_zero, eq_self, if_true, if_false, pb_b_some]
theorem c_add (hc : pb_CR (μ.1 (h + 1)) 0 a) {i j x : Nat} (hi : i < 4) (hj : j < 4) (hx : x < 1000000) (hd : vDebt a i j < 1000000) : ∃ f, pX5_addDebt h (nI i) (nI j) (nI x) μ = some ((), pb_sA μ (h + 1) f) ∧ pb_CR f 0 (vAdd a i j x) := by
  obtain ⟨f, h1, h2⟩ := c_oweNow hc (x := min 99 (vDebt a i j + x)) hi hj
  refine ⟨f, ?_, h2⟩
  have e : (if nI (vDebt a i j + x) < nI 99 then nI (vDebt a i j + x) else nI 99) = nI (min 99 (vDebt a i j + x)) := by
    simp (disch := omega) only [q_lt]
    split
    · rw [Nat.min_eq_right (by omega)]
    · rw [Nat.min_eq_left (by omega)]
  simp (disch := omega) only [pX5_addDebt, c_debt hc hi hj, pb_b_some, lz, q_add, e, h1]
theorem c_less (hc : pb_CR (μ.1 (h + 1)) 0 a) {i j x : Nat} (hi : i < 4) (hj : j < 4) (hx : x < 1000000) (hd : vDebt a i j < 1000000) : ∃ f, pX5_lessenDebt h (nI i) (nI j) (nI x) μ = some ((), pb_sA μ (h + 1) f) ∧ pb_CR f 0 (vLess a i j x) := by
  obtain ⟨f, h1, h2⟩ := c_oweNow hc (x := vDebt a i j - x) hi hj
  refine ⟨f, ?_, h2⟩
  have e : (if nI 0 < nI (vDebt a i j) - nI x then nI (vDebt a i j) - nI x else nI 0) = nI (vDebt a i j - x) := by
    by_cases hle : x ≤ vDebt a i j
    · rw [q_sub hle]
      simp (disch := omega) only [q_lt]
      split
      · rfl
      · rw [show vDebt a i j - x = 0 by omega]
    · have h9 : nI (vDebt a i j) - nI x < (0 : Int32) := pk_sneg (by omega) (by omega)
      rw [if_neg (show ¬ nI 0 < nI (vDebt a i j) - nI x from Int32.not_lt.mpr (show nI (vDebt a i j) - nI x ≤ (0 : Int32) from Int32.le_of_lt h9)), show vDebt a i j - x = 0 by omega]
  unfold pX5_lessenDebt
  rw [c_debt hc hi hj, pb_b_some]
  show pb_b (pX5_oweNow h (nI i) (nI j) (if nI 0 < nI (vDebt a i j) - nI x then nI (vDebt a i j) - nI x else nI 0) μ) _ = _
  rw [e, h1, pb_b_some]
theorem c_feed (hc : pb_CR (μ.1 (h + 1)) 0 a) (hs : vS a) {b : Nat} (hb : b < 5) (ho : a (27 + b) < 4) : ∃ f, pX5_feed h (nI b) μ = some ((), pb_sA μ (h + 1) f) ∧ pb_CR f 0 (vFeed a b) := by
  have b1 := hs (47 + b) (by omega)
  have b2 := hs (3 + a (27 + b)) (by omega)
  have b3 := hs (32 + b) (by omega)
  have b4 := hs (37 + b) (by omega)
  have hc1 : pb_CR (upd (μ.1 (h + 1)) (47 + b) (nI (a (47 + b) + 1))) 0 (pb_u a (47 + b) (a (47 + b) + 1)) := hc.upd (by rw [pb_e_lo (by omega)])
  have hc1' : pb_CR ((pb_sA μ (h + 1) (upd (μ.1 (h + 1)) (47 + b) (nI (a (47 + b) + 1)))).1 (h + 1)) 0 (pb_u a (47 + b) (a (47 + b) + 1)) := by rw [pb_sA_eq]; exact hc1
  have e1 : pb_u a (47 + b) (a (47 + b) + 1) (3 + a (27 + b)) = a (3 + a (27 + b)) := pb_u_ne (by omega)
  have e2 : pb_u a (47 + b) (a (47 + b) + 1) (32 + b) = a (32 + b) := pb_u_ne (by omega)
  have e3 : pb_u a (47 + b) (a (47 + b) + 1) (37 + b) = a (37 + b) := pb_u_ne (by omega)
  unfold vFeed
  by_cases hh : 0 < a (3 + a (27 + b))
  · rw [if_pos hh]
    refine ⟨upd (upd (μ.1 (h + 1)) (47 + b) (nI (a (47 + b) + 1))) (3 + a (27 + b)) (nI (a (3 + a (27 + b)) - 1)), ?_, hc1.upd (by rw [pb_e_lo (by omega)])⟩
    have e4 : upd (μ.1 (h + 1)) (47 + b) (nI (a (47 + b) + 1)) (3 + a (27 + b)) = nI (a (3 + a (27 + b))) := by rw [hc1.lo (by omega), e1]
    simp (disch := omega) only [pX5_feed, c_own hc hb, lz, q_add, q_in, q_cl, q_eq, q_lt, q_le, q_9, q_b10, q_b01, Nat.one_ne_zero, eq_self, if_true, if_false, pb_b_some, hc.lo, c_hay hc1' ho, e1, pb_sA_sA, pb_sA_eq, e4, q_sub]
    rw [if_neg (by omega)]
  · rw [if_neg hh]
    have J : ∀ k : Nat, 1 ≤ k → k < 10 → ∃ f, pX5_feed_J54 h (nI b) (nI k) (pb_sA μ (h + 1) (upd (μ.1 (h + 1)) (47 + b) (nI (a (47 + b) + 1)))) = some ((), pb_sA μ (h + 1) f) ∧ pb_CR f 0 (if a (32 + b) - k = 0 then vHome (pb_u (pb_u a (47 + b) (a (47 + b) + 1)) (32 + b) 0) b else pb_u (pb_u a (47 + b) (a (47 + b) + 1)) (32 + b) (a (32 + b) - k)) := by
      intro k hk1 hk2
      have hc2 : pb_CR (upd (upd (μ.1 (h + 1)) (47 + b) (nI (a (47 + b) + 1))) (32 + b) (nI (a (32 + b) - k))) 0 (pb_u (pb_u a (47 + b) (a (47 + b) + 1)) (32 + b) (a (32 + b) - k)) := hc1.upd (by rw [pb_e_lo (by omega)])
      have hc2' : pb_CR ((pb_sA μ (h + 1) (upd (upd (μ.1 (h + 1)) (47 + b) (nI (a (47 + b) + 1))) (32 + b) (nI (a (32 + b) - k)))).1 (h + 1)) 0 (pb_u (pb_u a (47 + b) (a (47 + b) + 1)) (32 + b) (a (32 + b) - k)) := by rw [pb_sA_eq]; exact hc2
      have e : (if nI 0 < nI (a (32 + b)) - nI k then nI (a (32 + b)) - nI k else nI 0) = nI (a (32 + b) - k) := by
        by_cases hle : k ≤ a (32 + b)
        · rw [q_sub hle]
          simp (disch := omega) only [q_lt]
          split
          · rfl
          · rw [show a (32 + b) - k = 0 by omega]
        · have h9 : nI (a (32 + b)) - nI k < (0 : Int32) := pk_sneg (by omega) (by omega)
          rw [if_neg (show ¬ nI 0 < nI (a (32 + b)) - nI k from Int32.not_lt.mpr (show nI (a (32 + b)) - nI k ≤ (0 : Int32) from Int32.le_of_lt h9)), show a (32 + b) - k = 0 by omega]
      unfold pX5_feed_J54
      rw [c_wor hc1' hb, pb_b_some, e2]
      show ∃ f, (if pb_in (nI 32 + nI b) 52 = true then pb_b (pX5_isDead h (nI b) (pb_sA _ (h + 1) (upd _ (nI 32 + nI b).toNatClampNeg (if nI 0 < nI (a (32 + b)) - nI k then nI (a (32 + b)) - nI k else nI 0)))) _ else none) = _ ∧ _
      simp (disch := omega) only [e, lz, q_add, q_in, q_cl, q_eq, q_lt, q_le, q_9, q_b10, q_b01, Nat.one_ne_zero, eq_self, if_true, if_false, pb_b_some, pb_sA_sA, pb_sA_eq]
      unfold pX5_isDead
      simp (disch := omega) only [c_wor hc2' hb, pb_u_eq, lz, q_add, q_in, q_cl, q_eq, q_lt, q_le, q_9, q_b10, q_b01, Nat.one_ne_zero, eq_self, if_true, if_false, pb_b_some]
      by_cases h0 : a (32 + b) - k = 0
      · obtain ⟨f, hf1, hf2⟩ := c_home hc2' hb
        rw [pb_sA_sA] at hf1
        rw [h0] at hf1 hf2 ⊢
        refine ⟨f, ?_, ?_⟩
        · simp (disch := omega) only [lz, q_add, q_in, q_cl, q_eq, q_lt, q_le, q_9, q_b10, q_b01, Nat.one_ne_zero, eq_self, if_true, if_false, pb_b_some, hf1]
        · simpa using hf2
      · refine ⟨upd (upd (μ.1 (h + 1)) (47 + b) (nI (a (47 + b) + 1))) (32 + b) (nI (a (32 + b) - k)), ?_, ?_⟩
        · rw [if_neg h0]
          simp (disch := omega) only [lz, q_add, q_in, q_cl, q_eq, q_lt, q_le, q_9, q_b10, q_b01, Nat.one_ne_zero, eq_self, if_true, if_false, pb_b_some]
        · rw [if_neg h0]
          exact hc2
    have hJ : ∃ f, pX5_feed_J54 h (nI b) (nI (if a (37 + b) = 2 then 2 else 1)) (pb_sA μ (h + 1) (upd (μ.1 (h + 1)) (47 + b) (nI (a (47 + b) + 1)))) = some ((), pb_sA μ (h + 1) f) ∧ _ := J (if a (37 + b) = 2 then 2 else 1) (by split <;> omega) (by split <;> omega)
    obtain ⟨f, hf1, hf2⟩ := hJ
    refine ⟨f, ?_, hf2⟩
    rw [← hf1]
    simp (disch := omega) only [pX5_feed, c_own hc hb, lz, q_add, q_in, q_cl, q_eq, q_lt, q_le, q_9, q_b10, q_b01, Nat.one_ne_zero, eq_self, if_true, if_false, pb_b_some, hc.lo, c_hay hc1' ho, e1, pb_sA_sA, pb_sA_eq, c_knd hc1' hb, e3]
    rw [if_pos (by omega)]
    split <;> rfl
end CV
