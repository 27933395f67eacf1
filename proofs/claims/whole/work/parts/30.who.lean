/-! sets of beasts that are asked for; who may take them -/
section WHO
variable {K : Nat} {S : pb_S}
theorem pow32 {n : Nat} (h : n ≤ 5) : 2 ^ n ≤ 32 := Nat.pow_le_pow_right (n := 2) (i := n) (j := 5) (by decide) h
theorem q_shl {n : Nat} (h : n < 31) : (1 : Int32) <<< (nI n &&& 31) = nI (2 ^ n) := q_bit h
theorem c_areB {μ : pb_M} {a : pb_Vg} (hc : pb_CR (μ.1 (4 + 1)) 0 a) (hB : vB a ≤ 5) {x : Int32} : pX6_areBeasts x μ = some (nI (if inR x (2 ^ vB a) = true then 1 else 0), μ) := by
  unfold pX6_areBeasts inR
  rw [c_beasts hc, pb_b_some, q_shl (by omega)]
  simp only [Bool.and_eq_true, decide_eq_true_eq]
  by_cases h0 : x < 0
  · rw [if_pos h0, if_neg (fun q => absurd q.1 (Int32.not_le.mpr h0))]
    rfl
  · by_cases h1 : nI (2 ^ vB a) ≤ x
    · rw [if_neg h0, if_pos h1, if_neg (fun q => absurd q.2 (Int32.not_lt.mpr h1))]
      rfl
    · rw [if_neg h0, if_neg h1, if_pos ⟨Int32.not_lt.mp h0, Int32.not_le.mp h1⟩]
      rfl
theorem m_areB {μ : pb_M} {a : pb_Vg} (hm : μ.1 19 1 = nI (vB a)) (hB : vB a ≤ 5) {x : Int32} : pX7_in x.toInt64 (0 : Int64) ((((1 : Int32) <<< ((μ.1 19 1) &&& 31)) - (1 : Int32))).toInt64 μ = some (nI (if inR x (2 ^ vB a) = true then 1 else 0), μ) := by
  have := pow32 hB
  rw [m_in, hm, q_shl (by omega), l_0]
  simp only [l_le, le_pred (show 2 ^ vB a < 1000000 by omega)]
  unfold inR
  simp
theorem m_has {μ : pb_M} {x b : Nat} (hx : x < 2000000000) (hb : b < 31) : pX7_has (nI x) (nI b) μ = some (nI (if x.testBit b then 1 else 0), μ) := by
  unfold pX7_has
  rw [show (31 : Int32) = nI 31 from rfl, show (1 : Int32) = nI 1 from rfl, q_tb hx hb]
  generalize x.testBit b = q
  cases q <;> rfl
theorem c_has {μ : pb_M} {x b : Nat} (hx : x < 2000000000) (hb : b < 31) : pX6_has (nI x) (nI b) μ = some (nI (if x.testBit b then 1 else 0), μ) := by
  unfold pX6_has
  rw [show (31 : Int32) = nI 31 from rfl, show (1 : Int32) = nI 1 from rfl, q_tb hx hb]
  generalize x.testBit b = q
  cases q <;> rfl
def vTak (a : pb_Vg) (p : Nat) : Nat := pb_bits (fun b => vClause a p b == 0) (vB a)
theorem vTak_and {a : pb_Vg} {p x : Nat} (hx : x < 2 ^ vB a) : pb_bits (fun b => x.testBit b && (vClause a p b == 0)) (vB a) = x &&& vTak a p := by
  apply Nat.eq_of_testBit_eq
  intro i
  unfold vTak
  rw [Nat.testBit_and, pb_bits_test, pb_bits_test]
  by_cases h : i < vB a
  · simp [h]
  · have : x.testBit i = false := Nat.testBit_lt_two_pow (Nat.lt_of_lt_of_le hx (Nat.pow_le_pow_right (by decide) (by omega)))
    simp [h, this]
theorem m_mayTake {μ : pb_M} {a : pb_Vg} (hm : pb_MM μ 0 a) (hs : vS a) (hB : vB a ≤ 5) (ho : ∀ b, b < vB a → a (27 + b) < 4) {p x : Nat} (hp : p < 4) (hx : x < 2 ^ vB a) : pX7_mayTake (nI p) (nI x) μ = some (nI (x &&& vTak a p), μ) := by
  have := pow32 hB
  unfold pX7_mayTake
  rw [← vTak_and hx]
  exact lp_bits (fun n b s => pX7_mayTake_L5 (nI p) (nI x) n (nI s) (nI b) μ) (fun b => x.testBit b && (vClause a p b == 0)) (vB a) (fun s => some (nI s, μ)) (fun n s => by
    simp (disch := omega) only [pX7_mayTake_L5, hm.2.2.2, lz, q_add, q_in, q_cl, q_eq, q_lt, q_le, q_9, q_b10, q_b01, Nat.one_ne_zero, eq_self, if_true, if_false, pb_b_some, Nat.le_refl]) (fun n b s hb => by
    have h1 := vClause_lt a p b
    have hcl := m_clause hm hs (show 0 < 2 by omega) hp hb hB (ho b hb)
    by_cases e0 : x.testBit b = true
    · by_cases e : vClause a p b = 0
      · simp (disch := omega) only [pX7_mayTake_L5, hm.2.2.2, m_has, hcl, lz, q_add, q_in, q_cl, q_eq, q_lt, q_le, q_9, q_b10, q_b01, Nat.one_ne_zero, eq_self, if_true, if_false, pb_b_some, q_bit, q_or, e0, e, show ¬ vB a ≤ b by omega]
        simp
      · simp (disch := omega) only [pX7_mayTake_L5, hm.2.2.2, m_has, hcl, lz, q_add, q_in, q_cl, q_eq, q_lt, q_le, q_9, q_b10, q_b01, Nat.one_ne_zero, eq_self, if_true, if_false, pb_b_some, q_bit, q_or, e0, e, show ¬ vB a ≤ b by omega]
        simp [e]
    · simp (disch := omega) only [pX7_mayTake_L5, hm.2.2.2, m_has, hcl, lz, q_add, q_in, q_cl, q_eq, q_lt, q_le, q_9, q_b10, q_b01, Nat.one_ne_zero, eq_self, if_true, if_false, pb_b_some, q_bit, q_or, e0, show ¬ vB a ≤ b by omega]
      simp [e0]) pb_F (pb_Fgt (by omega))
theorem sub32 : ∀ x, x < 32 → ∀ t, t < 32 → ((nI x &&& (nI t ^^^ (-1 : Int32))) = (0 : Int32) ↔ x &&& t = x) := by decide +kernel
def vWho (a : pb_Vg) (x : Nat) : Nat := pb_bits (fun p => x &&& vTak a p == x) (vP a)
theorem vTak_32 {a : pb_Vg} {p : Nat} (hB : vB a ≤ 5) : vTak a p < 32 := pb_bits_32 _ hB
theorem op_who (hA : InvA K S) (hK : K + 1 ≤ 64) (v : Int32) : pOp K S (pX6_who v) (pX7_who v) := by
  have hP := hA.1.1.1.1
  have hB := hA.1.1.1.2
  have hs := hA.s
  have ho : ∀ b, b < vB S.1 → S.1 (27 + b) < 4 := fun b hb => by have := (hA.1.1.2.1 b hb).1; omega
  have h32 := pow32 hB
  by_cases h1 : inR v (2 ^ vB S.1) = true
  · obtain ⟨x, hx, rfl⟩ := inR_of h1 (by omega)
    refine pOp.read hA hK (nI (vWho S.1 x)) (pC.same fun μ hC => ?_) (pM.same fun μ hM => ?_)
    · have hc : pb_CR (μ.1 (4 + 1)) 0 S.1 := hC.1
      unfold pX6_who
      rw [c_areB hc hB, if_pos h1, pb_b_some, if_neg (by decide)]
      exact lp_bits (fun n b s => pX6_who_L15 (nI x) n (nI s) (nI b) μ) (fun p => x &&& vTak S.1 p == x) (vP S.1) (fun s => some (nI s, μ)) (fun n s => by
        simp (disch := omega) only [pX6_who_L15, c_people hc, lz, q_add, q_in, q_cl, q_eq, q_lt, q_le, q_9, q_b10, q_b01, Nat.one_ne_zero, eq_self, if_true, if_false, pb_b_some, Nat.le_refl]) (fun n b s hb => by
        have ht : pX5_takableBy 4 (nI b) μ = some (nI (vTak S.1 b), μ) := c_tak hc hs hB ho (show b < 4 by omega)
        have hq := sub32 x (by omega) (vTak S.1 b) (vTak_32 hB)
        rw [pX6_who_L15, c_people hc, pb_b_some, if_neg (fun z => (show ¬ vP S.1 ≤ b by omega) ((nI_leI (by omega) (by omega)).mp z)), ht, pb_b_some, q_shl (by omega), q_or, show nI b + (1 : Int32) = nI (b + 1) from nI_add b 1]
        by_cases e : x &&& vTak S.1 b = x
        · rw [if_pos (hq.mpr e)]
          simp [e]
        · rw [if_neg (fun z => e (hq.mp z))]
          simp [e]) pb_F (pb_Fgt (by omega))
    · unfold pX7_who
      rw [m_areB hM.1.2.2.2 hB, if_pos h1, pb_b_some, if_neg (by decide)]
      exact lp_bits (fun n b s => pX7_who_L25 (nI x) n (nI s) (nI b) μ) (fun p => x &&& vTak S.1 p == x) (vP S.1) (fun s => some (nI s, μ)) (fun n s => by
        simp (disch := omega) only [pX7_who_L25, hM.1.2.2.1, lz, q_add, q_in, q_cl, q_eq, q_lt, q_le, q_9, q_b10, q_b01, Nat.one_ne_zero, eq_self, if_true, if_false, pb_b_some, Nat.le_refl]) (fun n b s hb => by
        have ht := m_mayTake hM.1 hs hB ho (show b < 4 by omega) hx
        have hq := Nat.and_le_left (n := x) (m := vTak S.1 b)
        rw [pX7_who_L25, hM.1.2.2.1, if_neg (fun z => (show ¬ vP S.1 ≤ b by omega) ((nI_leI (by omega) (by omega)).mp z)), ht, pb_b_some, q_shl (by omega), q_or, show (0 : Int32) = nI 0 from rfl, q_or, show (1 : Int32) = nI 1 from rfl, nI_add]
        by_cases e : x &&& vTak S.1 b = x
        · rw [if_pos (by rw [e])]
          simp [e]
        · rw [if_neg (fun z => e ((nI_eq (by omega) (by omega)).mp z))]
          simp [e]) pb_F (pb_Fgt (by omega))
  · refine pOp.read hA hK (-2) (pC.same fun μ hC => ?_) (pM.same fun μ hM => ?_)
    · have hc : pb_CR (μ.1 (4 + 1)) 0 S.1 := hC.1
      unfold pX6_who
      rw [c_areB hc hB, if_neg h1, pb_b_some, if_pos (show nI 0 = (0 : Int32) from rfl)]
    · unfold pX7_who
      rw [m_areB hM.1.2.2.2 hB, if_neg h1, pb_b_some, if_pos (show nI 0 = (0 : Int32) from rfl)]
end WHO
