/-! acts -/
def pb_pc (x : Nat) : Nat := pb_sum (fun k => if x.testBit k then 1 else 0) 5
theorem pb_pc_lt (x : Nat) : pb_pc x ≤ 5 := by
  have := pb_sum_le (q := fun k => if x.testBit k then 1 else 0) (m := 1) (n := 5) (fun b _ => by split <;> omega)
  unfold pb_pc
  omega
theorem bc_all : ∀ x, x < 32 → (pJ6_bitCount_0f7a4 (nI x) (fun _ _ => 0, fun _ => 0)).map (·.1) = some (nI (pb_pc x)) := by decide +kernel
theorem c_bits {μ : pb_M} {x : Nat} (hx : x < 32) : pJ6_bitCount_0f7a4 (nI x) μ = some (nI (pb_pc x), μ) := by
  have e : pJ6_bitCount_0f7a4 (nI x) μ = ((pJ6_bitCount_0f7a4 (nI x) (fun _ _ => 0, fun _ => 0)).map (·.1)).map (fun z => (z, μ)) := rfl
  rw [e, bc_all x hx]
  rfl
theorem m_ones {μ : pb_M} {x : Nat} (hx : x < 2000000000) : pX7_ones (nI x) μ = some (nI (pb_pc x), μ) := by
  unfold pX7_ones
  exact lp_sum (fun n b s => pX7_ones_L4 (nI x) n (nI s) (nI b) μ) (fun k => if x.testBit k then 1 else 0) 5 (fun s => some (nI s, μ)) (fun n s => by
    simp (disch := omega) only [pX7_ones_L4, lz, q_add, q_in, q_cl, q_eq, q_lt, q_le, q_9, q_b10, q_b01, Nat.one_ne_zero, eq_self, if_true, if_false, pb_b_some, Nat.le_refl]) (fun n b s hb => by
    simp (disch := omega) only [pX7_ones_L4, q_tb, lz, q_add, q_in, q_cl, q_eq, q_lt, q_le, q_9, q_b10, q_b01, Nat.one_ne_zero, eq_self, if_true, if_false, pb_b_some]
    rw [if_neg (by omega)]) pb_F (pb_Fgt (by omega))
theorem m_shutNow {μ : pb_M} {a : pb_Vg} (hm : pb_MM μ 0 a) (hs : vS a) (hB : vB a ≤ 5) : pX7_shutNow μ = some (nI (pb_bits (fun b => a (42 + b) != 0) (vB a)), μ) := by
  unfold pX7_shutNow
  exact lp_bits (fun n b s => pX7_shutNow_L4 n (nI s) (nI b) μ) (fun b => a (42 + b) != 0) (vB a) (fun s => some (nI s, μ)) (fun n s => by
    simp (disch := omega) only [pX7_shutNow_L4, hm.2.2.2, lz, q_add, q_in, q_cl, q_eq, q_lt, q_le, q_9, q_b10, q_b01, Nat.one_ne_zero, eq_self, if_true, if_false, pb_b_some, Nat.le_refl]) (fun n b s hb => by
    simp (disch := omega) only [pX7_shutNow_L4, hm.2.2.2, m_isIn hm.1 hs (show 0 < 2 by omega) (show b < 5 by omega), lz, q_add, q_in, q_cl, q_eq, q_lt, q_le, q_9, q_b10, q_b01, Nat.one_ne_zero, eq_self, if_true, if_false, pb_b_some, q_bit, q_or]
    rw [if_neg (by omega)]
    by_cases e : a (42 + b) = 0 <;> simp [e]) pb_F (pb_Fgt (by omega))
section OPS
variable {K : Nat} {S : pb_S}
theorem vHome_same {a : pb_Vg} {b : Nat} (hb : b < 5) (hB : vB a ≤ 5) : vSame (vHome a b) a := by
  refine ⟨?_, ?_, fun b' hb' => ?_⟩ <;> (unfold vHome; rw [pb_u_ne (by omega), pb_u_ne (by omega)])
theorem vShut_same {a : pb_Vg} {p b : Nat} (hb : b < 5) (hB : vB a ≤ 5) : vSame (vShut a p b) a := by
  refine ⟨?_, ?_, fun b' hb' => ?_⟩ <;> (unfold vShut; rw [pb_u_ne (by omega), pb_u_ne (by omega)])
theorem vAdd_same {a : pb_Vg} {i j x : Nat} (hi : i < 4) (hj : j < 4) (hB : vB a ≤ 5) : vSame (vAdd a i j x) a := by
  refine ⟨?_, ?_, fun b' hb' => ?_⟩ <;> (unfold vAdd; rw [pb_u_ne (by omega)])
theorem op_day (hA : InvA K S) (hK : K + 1 ≤ 64) : pOp K S pX6_day pX7_day := by
  have hB := hA.1.1.1.2
  obtain ⟨k1, k2⟩ := hA.1.1.pass (by omega)
  have hs' : vS (vPass S.1) := k1.s (by omega)
  have hB' : vB (vPass S.1) = vB S.1 := k2 1 (by omega)
  have h32 : pb_bits (fun b => vPass S.1 (42 + b) != 0) (vB (vPass S.1)) < 32 := pb_bits_32 _ (by omega)
  refine ⟨nI (pb_pc (pb_bits (fun b => vPass S.1 (42 + b) != 0) (vB (vPass S.1)))), (vPass S.1, (pb_push S).2), fun μ hC => ?_, fun μ hM => ?_, hA.act hK (k1.mono (by omega)) ⟨k2 0 (by omega), k2 1 (by omega), fun b hb => k2 (37 + b) (by omega)⟩⟩
  · obtain ⟨μ1, g1, g2, g3⟩ := c_rem hA hC
    have hc : pb_CR (μ1.1 (4 + 1)) 0 S.1 := g2.1
    obtain ⟨f, g4, g5⟩ := c_pass hc hA.1.1 (by omega) (by have := hA.1.2; omega)
    have hc2 : pb_CR ((pb_sA μ1 (4 + 1) f).1 (4 + 1)) 0 (vPass S.1) := by rw [pb_sA_eq]; exact g5
    refine ⟨pb_sA μ1 5 f, ?_, g2.vil g5, g3.tr (frC.sA (by omega))⟩
    simp only [pX6_day, g1, g4, pb_b_some, c_shutB hc2 hs' (by omega), c_bits h32]
  · obtain ⟨μ1, g1, g2, g3⟩ := m_rem hA hM
    have hm1 : pb_MM μ1 0 S.1 := g2.1
    obtain ⟨r, g4, g5, g6⟩ := m_pass hm1 (by omega) hA.1.1 (by omega) (by have := hA.1.2; omega)
    refine ⟨pb_sA μ1 21 r, ?_, g2.vil g5, g3.tr (frM.sA (by omega))⟩
    simp only [pX7_day, g1, lz, g4, pb_b_some, m_shutNow g5 hs' (by omega), m_ones (show pb_bits (fun b => vPass S.1 (42 + b) != 0) (vB (vPass S.1)) < 2000000000 by omega)]
theorem op_breakOut (hA : InvA K S) (hK : K + 1 ≤ 64) (x : Int32) : pOp K S (pX6_breakOut x) (pX7_breakOut x) := by
  have hP := hA.1.1.1.1
  have hB := hA.1.1.1.2
  have hs := hA.s
  by_cases h1 : inR x (vB S.1) = true
  · obtain ⟨b, hb, rfl⟩ := inR_of h1 (by omega)
    have hb5 : b < 5 := by omega
    by_cases h2 : S.1 (42 + b) = 0
    · refine pOp.read hA hK (-3) (pC.same fun μ hC => ?_) (pM.same fun μ hM => ?_)
      · have hc : pb_CR (μ.1 (4 + 1)) 0 S.1 := hC.1
        simp (disch := omega) only [pX6_breakOut, c_hasB hc, c_shut hc hs hb5, if_pos h1, h2, lz, q_add, q_in, q_cl, q_eq, q_lt, q_le, q_9, q_b10, q_b01, Nat.one_ne_zero, eq_self, if_true, if_false, pb_b_some]
      · simp (disch := omega) only [pX7_breakOut, m_isB hM.1.2.2.2 hB, m_isIn hM.1.1 hs (show 0 < 2 by omega) hb5, if_pos h1, h2, lz, q_add, q_in, q_cl, q_eq, q_lt, q_le, q_9, q_b10, q_b01, Nat.one_ne_zero, eq_self, if_true, if_false, pb_b_some]
    · have h3 := hA.1.1.2.1 b hb
      refine ⟨pb_e (42 + b) (S.1 (42 + b)), (vRun S.1 b, (pb_push S).2), fun μ hC => ?_, fun μ hM => ?_, hA.act hK ((hA.1.1.run hb h2 (by omega)).mono (by omega)) ?_⟩
      · obtain ⟨μ1, g1, g2, g3⟩ := c_rem hA hC
        have hc0 : pb_CR (μ.1 (4 + 1)) 0 S.1 := hC.1
        have hc : pb_CR (μ1.1 (4 + 1)) 0 S.1 := g2.1
        obtain ⟨f, g4, g5⟩ := c_run hc hA.1.1 (by have := hA.1.2; omega) hb h2
        refine ⟨pb_sA μ1 5 f, ?_, g2.vil g5, g3.tr (frC.sA (by omega))⟩
        simp (disch := omega) only [pX6_breakOut, c_hasB hc0, c_shut hc0 hs hb5, if_pos h1, if_neg h2, lz, q_add, q_in, q_cl, q_eq, q_lt, q_le, q_9, q_b10, q_b01, Nat.one_ne_zero, eq_self, if_true, if_false, pb_b_some, g1, c_hol hc hb5, g4]
      · obtain ⟨μ1, g1, g2, g3⟩ := m_rem hA hM
        have hm1 : pb_MM μ1 0 S.1 := g2.1
        obtain ⟨r, g4, g5, g6⟩ := m_run hm1 (by omega) hA.1.1 (by have := hA.1.2; omega) hb h2
        refine ⟨pb_sA μ1 21 r, ?_, g2.vil g5, g3.tr (frM.sA (by omega))⟩
        simp (disch := omega) only [pX7_breakOut, m_isB hM.1.2.2.2 hB, m_isIn hM.1.1 hs (show 0 < 2 by omega) hb5, if_pos h1, if_neg h2, lz, q_add, q_in, q_cl, q_eq, q_lt, q_le, q_9, q_b10, q_b01, Nat.one_ne_zero, eq_self, if_true, if_false, pb_b_some, g1, m0_hol hm1 hb5, g4]
      · refine ⟨?_, ?_, fun b' hb' => ?_⟩ <;> (unfold vRun vHome vAdd; rw [pb_u_ne (by omega), pb_u_ne (by omega), pb_u_ne (by omega)])
  · refine pOp.read hA hK (-1) (pC.same fun μ hC => ?_) (pM.same fun μ hM => ?_)
    · have hc : pb_CR (μ.1 (4 + 1)) 0 S.1 := hC.1
      simp (disch := omega) only [pX6_breakOut, c_hasB hc, if_neg h1, lz, q_add, q_in, q_cl, q_eq, q_lt, q_le, q_9, q_b10, q_b01, Nat.one_ne_zero, eq_self, if_true, if_false, pb_b_some]
    · simp (disch := omega) only [pX7_breakOut, m_isB hM.1.2.2.2 hB, if_neg h1, lz, q_add, q_in, q_cl, q_eq, q_lt, q_le, q_9, q_b10, q_b01, Nat.one_ne_zero, eq_self, if_true, if_false, pb_b_some]
theorem op_forfeit (hA : InvA K S) (hK : K + 1 ≤ 64) (x : Int32) : pOp K S (pX6_forfeit x) (pX7_forfeit x) := by
  have hP := hA.1.1.1.1
  have hB := hA.1.1.1.2
  have hs := hA.s
  by_cases h1 : inR x (vB S.1) = true
  · obtain ⟨b, hb, rfl⟩ := inR_of h1 (by omega)
    have hb5 : b < 5 := by omega
    by_cases h2 : S.1 (42 + b) ≠ 0 ∧ 3 ≤ S.1 (47 + b)
    · have h3 := hA.1.1.2.1 b hb
      refine ⟨nI (S.1 (27 + b)), (vKeep S.1 b, (pb_push S).2), fun μ hC => ?_, fun μ hM => ?_, hA.act hK ((hA.1.1.keep hb h2.1 (by omega)).mono (by omega)) ?_⟩
      · obtain ⟨μ1, g1, g2, g3⟩ := c_rem hA hC
        have hc0 : pb_CR (μ.1 (4 + 1)) 0 S.1 := hC.1
        have hc : pb_CR (μ1.1 (4 + 1)) 0 S.1 := g2.1
        obtain ⟨f, g4, g5⟩ := c_keep hc hA.1.1 (by have := hA.1.2; omega) hb h2.1
        refine ⟨pb_sA μ1 5 f, ?_, g2.vil g5, g3.tr (frC.sA (by omega))⟩
        simp (disch := omega) only [pX6_forfeit, c_hasB hc0, c_ripe hc0 hs hb5, if_pos h1, if_pos h2, lz, q_add, q_in, q_cl, q_eq, q_lt, q_le, q_9, q_b10, q_b01, Nat.one_ne_zero, eq_self, if_true, if_false, pb_b_some, g1, c_own hc hb5, g4]
      · obtain ⟨μ1, g1, g2, g3⟩ := m_rem hA hM
        have hm1 : pb_MM μ1 0 S.1 := g2.1
        obtain ⟨r, g4, g5, g6⟩ := m_keep hm1 (by omega) hA.1.1 (by have := hA.1.2; omega) hb h2.1
        refine ⟨pb_sA μ1 21 r, ?_, g2.vil g5, g3.tr (frM.sA (by omega))⟩
        simp (disch := omega) only [pX7_forfeit, m_isB hM.1.2.2.2 hB, m_canKeep hM.1.1 hs (show 0 < 2 by omega) hb5, if_pos h1, if_pos h2, lz, q_add, q_in, q_cl, q_eq, q_lt, q_le, q_9, q_b10, q_b01, Nat.one_ne_zero, eq_self, if_true, if_false, pb_b_some, g1, m0_own hm1 hb5, g4]
      · refine ⟨?_, ?_, fun b' hb' => ?_⟩ <;> (unfold vKeep vHome vLess; rw [pb_u_ne (by omega), pb_u_ne (by omega), pb_u_ne (by omega), pb_u_ne (by omega)])
    · refine pOp.read hA hK (-3) (pC.same fun μ hC => ?_) (pM.same fun μ hM => ?_)
      · have hc : pb_CR (μ.1 (4 + 1)) 0 S.1 := hC.1
        simp (disch := omega) only [pX6_forfeit, c_hasB hc, c_ripe hc hs hb5, if_pos h1, if_neg h2, lz, q_add, q_in, q_cl, q_eq, q_lt, q_le, q_9, q_b10, q_b01, Nat.one_ne_zero, eq_self, if_true, if_false, pb_b_some]
      · simp (disch := omega) only [pX7_forfeit, m_isB hM.1.2.2.2 hB, m_canKeep hM.1.1 hs (show 0 < 2 by omega) hb5, if_pos h1, if_neg h2, lz, q_add, q_in, q_cl, q_eq, q_lt, q_le, q_9, q_b10, q_b01, Nat.one_ne_zero, eq_self, if_true, if_false, pb_b_some]
  · refine pOp.read hA hK (-1) (pC.same fun μ hC => ?_) (pM.same fun μ hM => ?_)
    · have hc : pb_CR (μ.1 (4 + 1)) 0 S.1 := hC.1
      simp (disch := omega) only [pX6_forfeit, c_hasB hc, if_neg h1, lz, q_add, q_in, q_cl, q_eq, q_lt, q_le, q_9, q_b10, q_b01, Nat.one_ne_zero, eq_self, if_true, if_false, pb_b_some]
    · simp (disch := omega) only [pX7_forfeit, m_isB hM.1.2.2.2 hB, if_neg h1, lz, q_add, q_in, q_cl, q_eq, q_lt, q_le, q_9, q_b10, q_b01, Nat.one_ne_zero, eq_self, if_true, if_false, pb_b_some]
theorem vClause0 {a : pb_Vg} {p b : Nat} (h : vClause a p b = 0 ∨ vClause a p b = 6) : a (27 + b) ≠ p ∧ a (32 + b) ≠ 0 ∧ a (42 + b) = 0 := by
  unfold vClause at h
  repeat' split at h
  all_goals omega
theorem op_drive (hA : InvA K S) (hK : K + 1 ≤ 64) (x y : Int32) : pOp K S (pX6_drive x y) (pX7_drive x y) := by
  have hP := hA.1.1.1.1
  have hB := hA.1.1.1.2
  have hs := hA.s
  by_cases h1 : inR x (vP S.1) = true
  · by_cases h2 : inR y (vB S.1) = true
    · obtain ⟨p, hp, rfl⟩ := inR_of h1 (by omega)
      obtain ⟨b, hb, rfl⟩ := inR_of h2 (by omega)
      have hb5 : b < 5 := by omega
      have hp4 : p < 4 := by omega
      have h3 := hA.1.1.2.1 b hb
      have ho : S.1 (27 + b) < 4 := by omega
      have hcl := vClause_lt S.1 p b
      have hM2 : 100 + 10 * K ≤ 900000 := by have := hA.1.2; omega
      by_cases e0 : vClause S.1 p b = 0
      · obtain ⟨w1, w2, w3⟩ := vClause0 (Or.inl e0)
        refine ⟨nI 0, (vShut S.1 p b, (pb_push S).2), fun μ hC => ?_, fun μ hM => ?_, hA.act hK ((hA.1.1.shut hb hp w1 w2 (by omega)).mono (by omega)) (vShut_same hb5 hB)⟩
        · obtain ⟨μ1, g1, g2, g3⟩ := c_rem hA hC
          have hc0 : pb_CR (μ.1 (4 + 1)) 0 S.1 := hC.1
          have hc : pb_CR (μ1.1 (4 + 1)) 0 S.1 := g2.1
          obtain ⟨f, g4, g5⟩ := c_shutIn hc (p := p) (b := b) hb5
          refine ⟨pb_sA μ1 5 f, ?_, g2.vil g5, g3.tr (frC.sA (by omega))⟩
          simp (disch := omega) only [pX6_drive, pX6_drive_J47, c_hasP hc0, c_hasB hc0, c_clause hc0 hs hp4 hb5 ho, if_pos h1, if_pos h2, e0, lz, q_add, q_in, q_cl, q_eq, q_lt, q_le, q_9, q_b10, q_b01, Nat.one_ne_zero, eq_self, if_true, if_false, pb_b_some, g1, g4]
        · obtain ⟨μ1, g1, g2, g3⟩ := m_rem hA hM
          have hm1 : pb_MM μ1 0 S.1 := g2.1
          obtain ⟨r, g4, g5, g6⟩ := m_shut hm1.1 (by omega) (p := p) (b := b) hb5
          have hsm := vShut_same (a := S.1) (p := p) hb5 hB
          refine ⟨pb_sA μ1 21 r, ?_, g2.vil (hm1.with g5 hsm.1 hsm.2.1 hsm.2.2), g3.tr (frM.sA (by omega))⟩
          simp (disch := omega) only [pX7_drive, pX7_drive_J39, m_isP hM.1.2.2.1 hP, m_isB hM.1.2.2.2 hB, m_clause hM.1 hs (show 0 < 2 by omega) hp4 hb hB ho, if_pos h1, if_pos h2, e0, lz, q_add, q_in, q_cl, q_eq, q_lt, q_le, q_9, q_b10, q_b01, Nat.one_ne_zero, eq_self, if_true, if_false, pb_b_some, g1, g4]
      · by_cases e6 : vClause S.1 p b = 6
        · obtain ⟨w1, w2, w3⟩ := vClause0 (Or.inr e6)
          have hd := (hA.1.1.2.2.1 p (S.1 (27 + b)) hp4 ho).1
          have hw := hs (32 + b) (by omega)
          refine ⟨nI 6, (vAdd S.1 p (S.1 (27 + b)) (S.1 (32 + b)), (pb_push S).2), fun μ hC => ?_, fun μ hM => ?_, hA.act hK ((hA.1.1.add hp h3.1 (Ne.symm w1) (by omega)).mono (by omega)) (vAdd_same hp4 ho hB)⟩
          · obtain ⟨μ1, g1, g2, g3⟩ := c_rem hA hC
            have hc0 : pb_CR (μ.1 (4 + 1)) 0 S.1 := hC.1
            have hc : pb_CR (μ1.1 (4 + 1)) 0 S.1 := g2.1
            obtain ⟨f, g4, g5⟩ := c_add hc (i := p) (j := S.1 (27 + b)) (x := S.1 (32 + b)) hp4 ho (by omega) (by omega)
            refine ⟨pb_sA μ1 5 f, ?_, g2.vil g5, g3.tr (frC.sA (by omega))⟩
            simp (disch := omega) only [pX6_drive, pX6_drive_J47, c_hasP hc0, c_hasB hc0, c_clause hc0 hs hp4 hb5 ho, if_pos h1, if_pos h2, e6, lz, q_add, q_in, q_cl, q_eq, q_lt, q_le, q_9, q_b10, q_b01, Nat.one_ne_zero, eq_self, if_true, if_false, pb_b_some, g1, c_own hc hb5, c_wor hc hb5, g4, show ¬ (6 = 0) by decide]
          · obtain ⟨μ1, g1, g2, g3⟩ := m_rem hA hM
            have hm1 : pb_MM μ1 0 S.1 := g2.1
            obtain ⟨r, g4, g5, g6⟩ := m_add hm1.1 (by omega) (i := p) (j := S.1 (27 + b)) (x := S.1 (32 + b)) hp4 ho (by omega) (by omega)
            have hsm := vAdd_same (a := S.1) (x := S.1 (32 + b)) hp4 ho hB
            refine ⟨pb_sA μ1 21 r, ?_, g2.vil (hm1.with g5 hsm.1 hsm.2.1 hsm.2.2), g3.tr (frM.sA (by omega))⟩
            simp (disch := omega) only [pX7_drive, pX7_drive_J39, m_isP hM.1.2.2.1 hP, m_isB hM.1.2.2.2 hB, m_clause hM.1 hs (show 0 < 2 by omega) hp4 hb hB ho, if_pos h1, if_pos h2, e6, lz, q_add, q_in, q_cl, q_eq, q_lt, q_le, q_9, q_b10, q_b01, Nat.one_ne_zero, eq_self, if_true, if_false, pb_b_some, g1, m0_own hm1 hb5, m0_wor hm1 hb5, g4, show ¬ (6 = 0) by decide]
        · refine pOp.read hA hK (-3) (pC.same fun μ hC => ?_) (pM.same fun μ hM => ?_)
          · have hc0 : pb_CR (μ.1 (4 + 1)) 0 S.1 := hC.1
            simp (disch := omega) only [pX6_drive, c_hasP hc0, c_hasB hc0, c_clause hc0 hs hp4 hb5 ho, if_pos h1, if_pos h2, e0, e6, lz, q_add, q_in, q_cl, q_eq, q_lt, q_le, q_9, q_b10, q_b01, Nat.one_ne_zero, eq_self, if_true, if_false, pb_b_some]
          · simp (disch := omega) only [pX7_drive, m_isP hM.1.2.2.1 hP, m_isB hM.1.2.2.2 hB, m_clause hM.1 hs (show 0 < 2 by omega) hp4 hb hB ho, if_pos h1, if_pos h2, e0, e6, lz, q_add, q_in, q_cl, q_eq, q_lt, q_le, q_9, q_b10, q_b01, Nat.one_ne_zero, eq_self, if_true, if_false, pb_b_some]
    · refine pOp.read hA hK (-1) (pC.same fun μ hC => ?_) (pM.same fun μ hM => ?_)
      · have hc : pb_CR (μ.1 (4 + 1)) 0 S.1 := hC.1
        simp (disch := omega) only [pX6_drive, c_hasP hc, c_hasB hc, if_pos h1, if_neg h2, lz, q_add, q_in, q_cl, q_eq, q_lt, q_le, q_9, q_b10, q_b01, Nat.one_ne_zero, eq_self, if_true, if_false, pb_b_some]
      · simp (disch := omega) only [pX7_drive, m_isP hM.1.2.2.1 hP, m_isB hM.1.2.2.2 hB, if_pos h1, if_neg h2, lz, q_add, q_in, q_cl, q_eq, q_lt, q_le, q_9, q_b10, q_b01, Nat.one_ne_zero, eq_self, if_true, if_false, pb_b_some]
  · refine pOp.read hA hK (-1) (pC.same fun μ hC => ?_) (pM.same fun μ hM => ?_)
    · have hc : pb_CR (μ.1 (4 + 1)) 0 S.1 := hC.1
      simp (disch := omega) only [pX6_drive, c_hasP hc, if_neg h1, lz, q_add, q_in, q_cl, q_eq, q_lt, q_le, q_9, q_b10, q_b01, Nat.one_ne_zero, eq_self, if_true, if_false, pb_b_some]
    · simp (disch := omega) only [pX7_drive, m_isP hM.1.2.2.1 hP, if_neg h1, lz, q_add, q_in, q_cl, q_eq, q_lt, q_le, q_9, q_b10, q_b01, Nat.one_ne_zero, eq_self, if_true, if_false, pb_b_some]
end OPS
