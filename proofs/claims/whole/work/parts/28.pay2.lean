section PAY
variable {K : Nat} {S : pb_S}
set_option maxRecDepth 100000 in
theorem c_pay_ok (hA : InvA K S) (hK : K + 1 ≤ 64) {μ : pb_M} (hC : InvC μ S) {p o k : Nat} (hp : p < vP S.1) (ho : o < vP S.1) (e : p ≠ o) (hk1 : 1 ≤ k) (hk9 : k ≤ 9) (hq : k ≤ vDebt S.1 p o ∧ k ≤ S.1 (7 + p)) (h1 : inR (nI p) (vP S.1) = true) (h2 : inR (nI o) (vP S.1) = true) :
    ∃ μ', pX6_pay (nI p) (nI o) (nI k) μ = some (nI (vDebt (vPay S.1 p o k) p o), μ') ∧ InvC μ' (vPay S.1 p o k, (pb_push S).2) ∧ frC μ μ' := by
  have hP := hA.1.1.1.1
  have hB := hA.1.1.1.2
  have hs := hA.s
  have hp4 : p < 4 := by omega
  have ho4 : o < 4 := by omega
  have hd := (hA.1.1.2.2.1 p o hp4 ho4).1
  have hmn := hs (7 + p) (by omega)
  have hM2 : 100 + 10 * K ≤ 800000 := by have := hA.1.2; omega
  obtain ⟨μ1, g1, g2, g3⟩ := c_rem hA hC
  have hc0 : pb_CR (μ.1 (4 + 1)) 0 S.1 := hC.1
  have hc : pb_CR (μ1.1 (4 + 1)) 0 S.1 := g2.1
  obtain ⟨f, g4, g5⟩ := c_pay hc hA.1.1 (by omega) hM2 hp ho e hk9 hq.2
  have hc2 : pb_CR ((pb_sA μ1 (4 + 1) f).1 (4 + 1)) 0 (vPay S.1 p o k) := by rw [pb_sA_eq]; exact g5
  refine ⟨pb_sA μ1 5 f, ?_, g2.vil g5, g3.tr (frC.sA (by omega))⟩
  unfold pX6_pay
  rw [c_hasP hc0, if_pos h1, pb_b_some, if_neg (by decide), c_hasP hc0, if_pos h2, pb_b_some, if_neg (by decide), if_neg (fun z => e ((nI_eq (by omega) (by omega)).mp z)), if_neg (show ¬ nI k < (1 : Int32) from fun z => (show ¬ k < 1 by omega) ((nI_ltI (b := 1) (by omega) (by omega)).mp z)), if_pos (show nI k ≤ (9 : Int32) from (nI_leI (b := 9) (by omega) (by omega)).mpr hk9), c_debt hc0 hp4 ho4, pb_b_some, if_neg (fun z => (show ¬ vDebt S.1 p o < k by omega) ((nI_ltI (by omega) (by omega)).mp z)), c_mon hc0 hp4, pb_b_some, if_pos ((nI_leI (by omega) (by omega)).mpr hq.2), g1, pb_b_some, g4, pb_b_some, c_debt hc2 hp4 ho4, pb_b_some]
set_option maxRecDepth 100000 in
theorem op_pay (hA : InvA K S) (hK : K + 1 ≤ 64) (x y w : Int32) : pOp K S (pX6_pay x y w) (pX7_pay x y w) := by
  have hP := hA.1.1.1.1
  have hB := hA.1.1.1.2
  have hs := hA.s
  by_cases h1 : inR x (vP S.1) = true
  · by_cases h2 : inR y (vP S.1) = true
    · obtain ⟨p, hp, rfl⟩ := inR_of h1 (by omega)
      obtain ⟨o, ho, rfl⟩ := inR_of h2 (by omega)
      have hp4 : p < 4 := by omega
      have ho4 : o < 4 := by omega
      have hd := (hA.1.1.2.2.1 p o hp4 ho4).1
      have hmn := hs (7 + p) (by omega)
      by_cases e : p = o
      · refine pOp.read hA hK (-2) (pC.same fun μ hC => ?_) (pM.same fun μ hM => ?_)
        · have hc : pb_CR (μ.1 (4 + 1)) 0 S.1 := hC.1
          unfold pX6_pay
          rw [c_hasP hc, if_pos h1, pb_b_some, if_neg (by decide), c_hasP hc, if_pos h2, pb_b_some, if_neg (by decide), if_pos (by rw [e])]
        · unfold pX7_pay
          rw [m_isP hM.1.2.2.1 hP, if_pos h1, pb_b_some, if_neg (by decide), m_isP hM.1.2.2.1 hP, if_pos h2, pb_b_some, if_neg (by decide), if_pos (by rw [e])]
      · by_cases hw : (1 : Int32) ≤ w ∧ w ≤ (9 : Int32)
        · obtain ⟨k, hk1, hk9, rfl⟩ : ∃ k, 1 ≤ k ∧ k ≤ 9 ∧ w = nI k := by
            obtain ⟨k, hk, rfl⟩ := nI_of2 (x := w) (M := 9) (n := 9) (by decide) (Int32.not_lt.mpr (Int32.le_trans (by decide) hw.1)) hw.2
            refine ⟨k, ?_, hk, rfl⟩
            have := (nI_leI (a := 1) (b := k) (by omega) (by omega)).mp hw.1
            omega
          by_cases hq : k ≤ vDebt S.1 p o ∧ k ≤ S.1 (7 + p)
          · obtain ⟨v1, v2⟩ := hA.1.1.pay (n := k) hp ho e hk9 (by omega)
            have hM2 : 100 + 10 * K ≤ 800000 := by have := hA.1.2; omega
            refine ⟨nI (vDebt (vPay S.1 p o k) p o), (vPay S.1 p o k, (pb_push S).2), fun μ hC => ?_, fun μ hM => ?_, hA.act hK (v1.mono (by omega)) ⟨v2 0 (by omega), v2 1 (by omega), fun b hb => v2 (37 + b) (by omega)⟩⟩
            · exact c_pay_ok hA hK hC hp ho e hk1 hk9 hq h1 h2
            · exact m_pay_ok hA hK hM hp ho e hk1 hk9 hq h1 h2 hw
          · refine pOp.read hA hK (-3) (pC.same fun μ hC => ?_) (pM.same fun μ hM => ?_)
            · have hc : pb_CR (μ.1 (4 + 1)) 0 S.1 := hC.1
              by_cases e3 : vDebt S.1 p o < k
              · unfold pX6_pay
                rw [c_hasP hc, if_pos h1, pb_b_some, if_neg (by decide), c_hasP hc, if_pos h2, pb_b_some, if_neg (by decide), if_neg (fun z => e ((nI_eq (by omega) (by omega)).mp z)), if_neg (show ¬ nI k < (1 : Int32) from fun z => (show ¬ k < 1 by omega) ((nI_ltI (b := 1) (by omega) (by omega)).mp z)), if_pos (show nI k ≤ (9 : Int32) from (nI_leI (b := 9) (by omega) (by omega)).mpr hk9), c_debt hc hp4 ho4, pb_b_some, if_pos ((nI_ltI (by omega) (by omega)).mpr e3)]
              · unfold pX6_pay
                rw [c_hasP hc, if_pos h1, pb_b_some, if_neg (by decide), c_hasP hc, if_pos h2, pb_b_some, if_neg (by decide), if_neg (fun z => e ((nI_eq (by omega) (by omega)).mp z)), if_neg (show ¬ nI k < (1 : Int32) from fun z => (show ¬ k < 1 by omega) ((nI_ltI (b := 1) (by omega) (by omega)).mp z)), if_pos (show nI k ≤ (9 : Int32) from (nI_leI (b := 9) (by omega) (by omega)).mpr hk9), c_debt hc hp4 ho4, pb_b_some, if_neg (fun z => e3 ((nI_ltI (by omega) (by omega)).mp z)), c_mon hc hp4, pb_b_some, if_neg (fun z => (show ¬ k ≤ S.1 (7 + p) by omega) ((nI_leI (by omega) (by omega)).mp z))]
            · unfold pX7_pay
              rw [m_isP hM.1.2.2.1 hP, if_pos h1, pb_b_some, if_neg (by decide), m_isP hM.1.2.2.1 hP, if_pos h2, pb_b_some, if_neg (by decide), if_neg (fun z => e ((nI_eq (by omega) (by omega)).mp z)), m_in19, if_pos hw, pb_b_some, if_neg (by decide), show (0 : Int32) = nI 0 from rfl, m_debt, pb_b_some, if_pos (q_in (by omega) (by omega)), q_cl (by omega), m0_debt hM.1 hp4 ho4]
              by_cases e3 : vDebt S.1 p o < k
              · rw [if_pos ((nI_ltI (by omega) (by omega)).mpr e3)]
              · rw [if_neg (fun z => e3 ((nI_ltI (by omega) (by omega)).mp z)), show (4 : Int32) + nI p = nI (4 + p) from nI_add 4 p, if_pos (q_in (by omega) (by omega)), q_cl (by omega), m0_mon hM.1 hp4, if_neg (fun z => (show ¬ k ≤ S.1 (7 + p) by omega) ((nI_leI (by omega) (by omega)).mp z))]
        · refine pOp.read hA hK (-2) (pC.same fun μ hC => ?_) (pM.same fun μ hM => ?_)
          · have hc : pb_CR (μ.1 (4 + 1)) 0 S.1 := hC.1
            unfold pX6_pay
            rw [c_hasP hc, if_pos h1, pb_b_some, if_neg (by decide), c_hasP hc, if_pos h2, pb_b_some, if_neg (by decide), if_neg (fun z => e ((nI_eq (by omega) (by omega)).mp z))]
            by_cases e3 : w < 1
            · rw [if_pos e3]
            · rw [if_neg e3, if_neg (fun z => hw ⟨Int32.not_lt.mp e3, z⟩)]
          · unfold pX7_pay
            rw [m_isP hM.1.2.2.1 hP, if_pos h1, pb_b_some, if_neg (by decide), m_isP hM.1.2.2.1 hP, if_pos h2, pb_b_some, if_neg (by decide), if_neg (fun z => e ((nI_eq (by omega) (by omega)).mp z)), m_in19, if_neg hw, pb_b_some, if_pos (show nI 0 = (0 : Int32) from rfl)]
    · refine pOp.read hA hK (-1) (pC.same fun μ hC => ?_) (pM.same fun μ hM => ?_)
      · have hc : pb_CR (μ.1 (4 + 1)) 0 S.1 := hC.1
        simp (disch := omega) only [pX6_pay, c_hasP hc, if_pos h1, if_neg h2, lz, q_add, q_in, q_cl, q_eq, q_lt, q_le, q_9, q_b10, q_b01, Nat.one_ne_zero, eq_self, if_true, if_false, pb_b_some]
      · unfold pX7_pay
        rw [m_isP hM.1.2.2.1 hP, if_pos h1, pb_b_some, if_neg (by decide), m_isP hM.1.2.2.1 hP, if_neg h2, pb_b_some, if_pos (show nI 0 = (0 : Int32) from rfl)]
  · refine pOp.read hA hK (-1) (pC.same fun μ hC => ?_) (pM.same fun μ hM => ?_)
    · have hc : pb_CR (μ.1 (4 + 1)) 0 S.1 := hC.1
      simp (disch := omega) only [pX6_pay, c_hasP hc, if_neg h1, lz, q_add, q_in, q_cl, q_eq, q_lt, q_le, q_9, q_b10, q_b01, Nat.one_ne_zero, eq_self, if_true, if_false, pb_b_some]
    · unfold pX7_pay
      rw [m_isP hM.1.2.2.1 hP, if_neg h1, pb_b_some, if_pos (show nI 0 = (0 : Int32) from rfl)]
end PAY
