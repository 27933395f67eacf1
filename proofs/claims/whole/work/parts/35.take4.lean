section TAKE4
variable {K : Nat} {S : pb_S}
theorem vClause_w {a : pb_Vg} {p b : Nat} (h : vClause a p b = 0) : a (32 + b) ≠ 0 := fun q => by
  unfold vClause at h
  split at h
  · omega
  · omega
theorem op_take (hA : InvA K S) (hK : K + 1 ≤ 64) (x y v : Int32) : pOp K S (pX6_take x y v) (pX7_take x y v) := by
  have hP := hA.1.1.1.1
  have hB := hA.1.1.1.2
  have hs := hA.s
  have hK2 := hA.1.2
  by_cases h1 : inR x (vP S.1) = true
  · by_cases h2 : inR y (vP S.1) = true
    · obtain ⟨p, hp, rfl⟩ := inR_of h1 (by omega)
      obtain ⟨o, ho, rfl⟩ := inR_of h2 (by omega)
      by_cases e : p = o
      · refine pOp.read hA hK (-2) (pC.same fun μ hC => ?_) (pM.same fun μ hM => ?_)
        · have hc : pb_CR (μ.1 (4 + 1)) 0 S.1 := hC.1
          unfold pX6_take
          rw [c_hasP hc, if_pos h1, pb_b_some, if_neg (by decide), c_hasP hc, if_pos h2, pb_b_some, if_neg (by decide), if_pos (by rw [e])]
        · unfold pX7_take
          rw [m_isP hM.1.2.2.1 hP, if_pos h1, pb_b_some, if_neg (by decide), m_isP hM.1.2.2.1 hP, if_pos h2, pb_b_some, if_neg (by decide), if_pos (by rw [e])]
      · have hob : ∀ b, b < vB S.1 → S.1 (27 + b) < 4 := fun b hb => by have := (hA.1.1.2.1 b hb).1; omega
        have hne : ¬ nI p = nI o := fun z => e ((nI_eq (by omega) (by omega)).mp z)
        refine pOp.read hA hK (if v = 0 then tkE1 (pb_it (tkB S.1 p o) (vB S.1) 0 none) else tkE2 (pb_it (tkB S.1 p o) (vB S.1) 0 none)) (pC.read fun μ hC => ?_) (pM.read fun μ hM => ?_)
        · have hc : pb_CR (μ.1 (4 + 1)) 0 S.1 := hC.1
          have hx : vTak S.1 p &&& pb_bits (fun b => S.1 (27 + b) == o) (vB S.1) < 32 := Nat.lt_of_le_of_lt Nat.and_le_left (vTak_32 hB)
          obtain ⟨f, k1⟩ := c_takeL (μ := μ) (v := v) hC.1 hA.1.1 (by omega) (by omega) hp ho e hx (fun b hb => by
            unfold vTak
            rw [Nat.testBit_and, pb_bits_test, pb_bits_test]
            simp [hb]) (fun b _ h => vClause_w h) (vB S.1) 0 pb_F (μ.1 (6 + 1)) none (by omega) (pb_Fgt (by omega)) (fun y h => by cases h)
          rw [pb_sA_self] at k1
          refine ⟨pb_sA μ (6 + 1) f, ?_, agC.sA (by omega), frC.sA (by omega)⟩
          have ht : pX5_takableBy 4 (nI p) μ = some (nI (vTak S.1 p), μ) := c_tak hc hs hB hob (by omega)
          unfold pX6_take
          rw [c_hasP hc, if_pos h1, pb_b_some, if_neg (by decide), c_hasP hc, if_pos h2, pb_b_some, if_neg (by decide), if_neg hne, ht, pb_b_some, c_beastsOf hc hs hB (by omega), pb_b_some, q_and]
          exact k1
        · obtain ⟨r, k1, k2⟩ := m_takeL (μ := μ) (v := v) hM.1 hA.1.1 (by omega) (by omega) hp ho e (fun b _ h => vClause_w h) (vB S.1) 0 pb_F (μ.1 21) none (by omega) (pb_Fgt (by omega)) (fun y h => by cases h) pb_Fr.rf
          rw [pb_sA_self] at k1
          refine ⟨pb_sA μ 21 r, ?_, agM.s21 k2, frM.sA (by omega)⟩
          unfold pX7_take
          rw [m_isP hM.1.2.2.1 hP, if_pos h1, pb_b_some, if_neg (by decide), m_isP hM.1.2.2.1 hP, if_pos h2, pb_b_some, if_neg (by decide), if_neg hne]
          exact k1
    · refine pOp.read hA hK (-1) (pC.same fun μ hC => ?_) (pM.same fun μ hM => ?_)
      · have hc : pb_CR (μ.1 (4 + 1)) 0 S.1 := hC.1
        unfold pX6_take
        rw [c_hasP hc, if_pos h1, pb_b_some, if_neg (by decide), c_hasP hc, if_neg h2, pb_b_some, if_pos (show nI 0 = (0 : Int32) from rfl)]
      · unfold pX7_take
        rw [m_isP hM.1.2.2.1 hP, if_pos h1, pb_b_some, if_neg (by decide), m_isP hM.1.2.2.1 hP, if_neg h2, pb_b_some, if_pos (show nI 0 = (0 : Int32) from rfl)]
  · refine pOp.read hA hK (-1) (pC.same fun μ hC => ?_) (pM.same fun μ hM => ?_)
    · have hc : pb_CR (μ.1 (4 + 1)) 0 S.1 := hC.1
      unfold pX6_take
      rw [c_hasP hc, if_neg h1, pb_b_some, if_pos (show nI 0 = (0 : Int32) from rfl)]
    · unfold pX7_take
      rw [m_isP hM.1.2.2.1 hP, if_neg h1, pb_b_some, if_pos (show nI 0 = (0 : Int32) from rfl)]
end TAKE4
