section SHARE
variable {K : Nat} {S : pb_S} {μ : pb_M} {a : pb_Vg} {M : Nat}
def ftN (k : Nat) : Nat := [1, 1, 2, 6, 24].getD k 0
theorem ft_tab : ∀ k, k < 5 → ([1, 1, 2, 6, 24] : List Int32).getD k 0 = nI (ftN k) ∧ pb_it (fun b s => s * b) (max (k + 1) 2 - 2) 2 1 = ftN k ∧ ftN k ≤ 24 ∧ 1 ≤ ftN k := by decide +kernel
theorem pc_tab : ∀ P, P < 5 → ∀ s, s < 2 ^ P → ∀ p, p < P → s.testBit p = false → pb_pc s ≤ P - 1 ∧ ftN (pb_pc s) * ftN (P - 1 - pb_pc s) ≤ 6 := by decide +kernel
theorem eu_tab : ∀ x, x < 100 → ∀ P, P < 5 → (euS 40 x (ftN P)).isSome = true ∧ 1 ≤ (euS 40 x (ftN P)).getD 0 ∧ (euS 40 x (ftN P)).getD 0 ≤ 100000 := by decide +kernel
def shF (a : pb_Vg) (p s v : Nat) : Nat := if s.testBit p = false ∧ mA a s < mA a (s ||| 2 ^ p) then v + ftN (pb_pc s) * ftN (vP a - 1 - pb_pc s) else v
theorem shF_le (hP : vP a ≤ 4) {p : Nat} (hp : p < vP a) : ∀ (c b v : Nat), b + c ≤ 2 ^ vP a → pb_it (shF a p) c b v ≤ v + 6 * c
  | 0, b, v, _ => Nat.le_refl _
  | c + 1, b, v, h => by
    have ih := shF_le hP hp c (b + 1) (shF a p b v) (by omega)
    have h2 : shF a p b v ≤ v + 6 := by
      unfold shF
      split
      · rename_i q
        have := (pc_tab (vP a) (by omega) b (by omega) p hp q.1).2
        omega
      · omega
    show pb_it (shF a p) c (b + 1) (shF a p b v) ≤ _
    omega
theorem mA_4 (hP : vP a ≤ 4) {s : Nat} (hs : s < 2 ^ vP a) : mA a s ≤ 4 := by
  have h0 := (mA_H hP hs).1 0 (by omega) (fun p _ q => by simp at q)
  have e0 : hn5 (tA a) (31 : Nat).testBit 0 = 0 := by
    unfold hn5 nb
    simp [bz1, pb_sum]
  have e4 : hp4 s.testBit 0 ≤ 4 * 1 := pb_sum_le fun p _ => by
    unfold bz1
    split <;> omega
  unfold hf at h0
  omega
theorem c_owg (hl : pb_LK μ a) (hP : vP a ≤ 4) (hB : vB a ≤ 5) {p : Nat} (hp : p < vP a) : pX2_ordersWithGain (nI p) μ = some (nI (pb_it (shF a p) (2 ^ vP a) 0 0), μ) := by
  have h16 := pow32 (n := vP a) (by omega)
  have hp0 := Nat.two_pow_pos (vP a)
  unfold pX2_ordersWithGain
  refine (lp_it (fun n b (s : Nat) => pX2_ordersWithGain_L4 (nI p) n (nI s) (nI b) μ) (shF a p) (fun _ _ => True) (2 ^ vP a) (fun s => some (nI s, μ)) (fun n s _ => ?_) (fun n b s hb _ => ⟨?_, trivial⟩) (2 ^ vP a) 0 pb_F 0 (by omega) (pb_Fgt (by omega)) trivial).1
  · show pX2_ordersWithGain_L4 _ _ _ _ _ = _
    rw [pX2_ordersWithGain_L4, c_every hl hP, pb_b_some, if_pos ((nI_ltI (by omega) (by omega)).mpr (by omega))]
  · show pX2_ordersWithGain_L4 _ (n + 1) _ _ _ = pX2_ordersWithGain_L4 _ _ _ _ _
    have n1 : nI b + (1 : Int32) = nI (b + 1) := nI_add b 1
    rw [pX2_ordersWithGain_L4, c_every hl hP, pb_b_some, if_neg (fun z => (show ¬ 2 ^ vP a - 1 < b by omega) ((nI_ltI (by omega) (by omega)).mp z)), c_has (by omega) (by omega), pb_b_some, n1]
    unfold shF
    by_cases e : b.testBit p = true
    · rw [if_pos e, if_neg (by decide), if_neg (fun q => by rw [e] at q; exact absurd q.1 (by decide))]
    · have e' : b.testBit p = false := by simpa using e
      have hs2 : b ||| 2 ^ p < 2 ^ vP a := Nat.or_lt_two_pow hb (Nat.pow_lt_pow_right (by decide) hp)
      have m1 := mA_4 hP hb
      have m2 := mA_4 hP hs2
      obtain ⟨t1, -⟩ := pc_tab (vP a) (by omega) b hb p hp e'
      rw [if_neg e, if_pos (show nI 0 = (0 : Int32) from rfl), q_shl (by omega), q_or, c_mA hl hP hB hs2, pb_b_some, c_mA hl hP hB hb, pb_b_some]
      by_cases q : mA a (b ||| 2 ^ p) ≤ mA a b
      · rw [if_pos ((nI_leI (by omega) (by omega)).mpr q), if_neg (fun r => by have := r.2; omega)]
      · rw [if_neg (fun z => q ((nI_leI (by omega) (by omega)).mp z)), c_bits (by omega), pb_b_some, hl.1, show nI (vP a) - (1 : Int32) = nI (vP a - 1) from pk_sub (show 1 ≤ vP a by omega), pk_sub t1, if_pos (q_in (by omega) (by omega)), if_pos (q_in (by omega) (by omega)), q_cl (by omega), q_cl (by omega), (ft_tab _ (by omega)).1, (ft_tab _ (by omega)).1, pk_mul, nI_add, if_pos ⟨e', by omega⟩]
theorem m_fact {k : Nat} (hk : k < 5) : pX7_factorial (nI k) μ = some (nI (ftN k), μ) := by
  unfold pX7_factorial
  have h := (lp_it (fun n b (s : Nat) => pX7_factorial_L4 (nI k) n (nI s) (nI b) μ) (fun b s => s * b) (fun b _ => 2 ≤ b) (max (k + 1) 2) (fun s => some (nI s, μ)) (fun n s _ => by
    show pX7_factorial_L4 _ _ _ _ _ = _
    rw [pX7_factorial_L4, if_pos ((nI_ltI (by omega) (by omega)).mpr (by omega))]) (fun n b s hb h2 => ⟨by
    show pX7_factorial_L4 _ (n + 1) _ _ _ = pX7_factorial_L4 _ _ _ _ _
    rw [pX7_factorial_L4, if_neg (fun z => (show ¬ k < b by omega) ((nI_ltI (by omega) (by omega)).mp z)), pk_mul, show nI b + (1 : Int32) = nI (b + 1) from nI_add b 1], by omega⟩) (max (k + 1) 2 - 2) 2 pb_F 1 (by omega) (pb_Fgt (by omega)) (Nat.le_refl _)).1
  rw [(ft_tab k hk).2.1] at h
  exact h
theorem m_shL (hm : pb_MM μ 0 a) (hs : vS a) (hP : vP a ≤ 4) (hB : vB a ≤ 5) (hob : ∀ b, b < vB a → a (27 + b) < 4) {p : Nat} (hp : p < vP a) {v2 : Int32} (Kc : Int32 → pb_M → Option (Int32 × pb_M)) : ∀ (c b f v : Nat) (w : Int32), b + c = 2 ^ vP a → c < f → ∃ w', pX7_share_L15 (nI p) v2 Kc f (nI v) (nI b) (pb_15 μ w) = Kc (nI (pb_it (shF a p) c b v)) (pb_15 μ w')
  | _, _, 0, _, _, _, hf => by omega
  | 0, b, f + 1, v, w, hb, _ => by
    have h16 := pow32 (n := vP a) (by omega)
    refine ⟨w, ?_⟩
    rw [pX7_share_L15, (pb_15_m hm (v := w)).2.2.1, q_shl (by omega), if_pos ((nI_leI (by omega) (by omega)).mpr (by omega))]
    rfl
  | c + 1, b, f + 1, v, w, hb, hf => by
    have h16 := pow32 (n := vP a) (by omega)
    have n1 : nI b + (1 : Int32) = nI (b + 1) := nI_add b 1
    have hP0 : ∀ w, (pb_15 μ w).1 19 0 = nI (vP a) := fun w => (pb_15_m hm (v := w)).2.2.1
    have hst : ∃ w1, pX7_share_L15 (nI p) v2 Kc (f + 1) (nI v) (nI b) (pb_15 μ w) = pX7_share_L15 (nI p) v2 Kc f (nI (shF a p b v)) (nI (b + 1)) (pb_15 μ w1) := by
      rw [pX7_share_L15, hP0, q_shl (by omega), if_neg (fun z => (show ¬ 2 ^ vP a ≤ b by omega) ((nI_leI (by omega) (by omega)).mp z)), m_has (by omega) (by omega), pb_b_some, n1]
      unfold shF
      by_cases e : b.testBit p = true
      · refine ⟨w, ?_⟩
        rw [if_pos e, if_neg (by decide), if_neg (fun q => by rw [e] at q; exact absurd q.1 (by decide))]
      · have e' : b.testBit p = false := by simpa using e
        have hs2 : b ||| 2 ^ p < 2 ^ vP a := Nat.or_lt_two_pow (by omega) (Nat.pow_lt_pow_right (by decide) hp)
        obtain ⟨t1, -⟩ := pc_tab (vP a) (by omega) b (by omega) p hp e'
        obtain ⟨s1, s2⟩ := mA_step hP (show b < 2 ^ vP a by omega) hp e'
        rw [if_neg e, if_pos (show nI 0 = (0 : Int32) from rfl), m_ones (by omega), pb_b_some, m_fact (by omega), pb_b_some, m_ones (by omega), pb_b_some, hP0, show nI (vP a) - (1 : Int32) = nI (vP a - 1) from pk_sub (show 1 ≤ vP a by omega), pk_sub t1, m_fact (by omega), pb_b_some, q_shl (by omega), q_or, m_mostBy (pb_15_m hm) hs hP hB hob (by omega), pb_b_some, pb_15_15, m_mostBy (pb_15_m hm) hs hP hB hob (by omega), pb_b_some, pb_15_15, pk_mul, pk_sub s1, pk_mul, nI_add]
        refine ⟨nI (gN (tS2 a b) (vB a + 1) (vP a) 0 (fF 0)), ?_⟩
        · refine congrArg (fun z => pX7_share_L15 (nI p) v2 Kc f (nI z) (nI (b + 1)) (pb_15 μ (nI (gN (tS2 a b) (vB a + 1) (vP a) 0 (fF 0))))) ?_
          by_cases q : mA a b < mA a (b ||| 2 ^ p)
          · rw [if_pos ⟨e', q⟩, show mA a (b ||| 2 ^ p) - mA a b = 1 by omega, Nat.mul_one]
          · rw [if_neg (fun r => q r.2), show mA a (b ||| 2 ^ p) - mA a b = 0 by omega, Nat.mul_zero, Nat.add_zero]
    obtain ⟨w1, j1⟩ := hst
    obtain ⟨w', k1⟩ := m_shL hm hs hP hB hob hp Kc c (b + 1) f (shF a p b v) w1 (by omega) (by omega)
    exact ⟨w', j1.trans k1⟩
theorem op_share (hA : InvA K S) (hK : K + 1 ≤ 64) (x v : Int32) : pOp K S (pX6_share x v) (pX7_share x v) := by
  have hP := hA.1.1.1.1
  have hB := hA.1.1.1.2
  have hs := hA.s
  have hob : ∀ b, b < vB S.1 → S.1 (27 + b) < 4 := fun b hb => by have := (hA.1.1.2.1 b hb).1; omega
  by_cases h1 : inR x (vP S.1) = true
  · obtain ⟨p, hp, rfl⟩ := inR_of h1 (by omega)
    have hle := shF_le hP hp (2 ^ vP S.1) 0 0 (by omega)
    have h16 : 2 ^ vP S.1 ≤ 16 := Nat.pow_le_pow_right (n := 2) (i := vP S.1) (j := 4) (by decide) hP
    obtain ⟨e1, e2, e3⟩ := eu_tab (pb_it (shF S.1 p) (2 ^ vP S.1) 0 0) (by omega) (vP S.1) (by omega)
    obtain ⟨-, -, f1, f2⟩ := ft_tab (vP S.1) (by omega)
    generalize hsum : pb_it (shF S.1 p) (2 ^ vP S.1) 0 0 = sm at *
    obtain ⟨g, hg⟩ := Option.isSome_iff_exists.mp e1
    rw [hg] at e2 e3
    have e2' : 1 ≤ g := e2
    have e3' : g ≤ 100000 := e3
    refine pOp.read hA hK (if v = (0 : Int32) then nI (ftN (vP S.1) / g) else nI (sm / g)) (pC.read fun μ hC => ?_) (pM.read fun μ hM => ?_)
    · have hc4 : pb_CR (μ.1 (4 + 1)) 0 S.1 := hC.1
      obtain ⟨μ1, g1, g2, g3, g4, g5⟩ := c_look hC.1 hs hP hB hob
      refine ⟨μ1, ?_, g4, g5⟩
      have ho : pX2_orders μ1 = some (nI (ftN (vP S.1)), μ1) := by
        unfold pX2_orders
        rw [g2.1, if_pos (q_in (by omega) (by omega)), q_cl (by omega), (ft_tab _ (by omega)).1]
      unfold pX6_share
      rw [c_hasP hc4, if_pos h1, pb_b_some, if_neg (by decide), g1, pb_b_some, c_owg g2 hP hB hp, pb_b_some, hsum, ho, pb_b_some, c_frac hg (by omega) (by omega) e2' e3', pb_b_some]
    · obtain ⟨w', k1⟩ := m_shL hM.1 hs hP hB hob hp (v2 := v) (fun x3k90 μk90 =>
        pb_b (pX7_factorial (μk90.1 19 0) μk90) (fun b95 μ95 =>
        pb_b (pX7_common x3k90 b95 μ95) (fun b98 μ98 =>
        if v = (0 : Int32) then
          pb_b (pX7_factorial (μ98.1 19 0) μ98) (fun b118 μ118 =>
          if b98 = 0 then none else
          some ((b118 / b98), μ118))
        else
        if b98 = 0 then none else
        some ((x3k90 / b98), μ98)))) (2 ^ vP S.1) 0 pb_F 0 (μ.1 19 15) (by omega) (pb_Fgt (by omega))
      rw [pb_15_self, hsum] at k1
      refine ⟨pb_15 μ w', ?_, agM.s19 (by omega), frM.sA (by omega)⟩
      have hcm : pX7_common (nI sm) (nI (ftN (vP S.1))) (pb_15 μ w') = some (nI g, pb_15 μ w') := by
        unfold pX7_common
        rw [if_pos (show (0 : Int32) ≤ nI sm from (nI_leI (a := 0) (by omega) (by omega)).mpr (by omega))]
        exact m_euS 40 _ _ pb_F hg (pb_Fgt (by omega)) (by omega) (by omega)
      have hg0 : ¬ nI g = 0 := fun q => (show ¬ g = 0 by omega) ((nI_eq (b := 0) (by omega) (by omega)).mp q)
      unfold pX7_share
      rw [m_isP hM.1.2.2.1 hP, if_pos h1, pb_b_some, if_neg (by decide)]
      refine k1.trans ?_
      rw [(pb_15_m hM.1 (v := w')).2.2.1, m_fact (by omega), pb_b_some, hcm, pb_b_some]
      by_cases e : v = (0 : Int32)
      · rw [if_pos e, if_pos e, (pb_15_m hM.1 (v := w')).2.2.1, m_fact (by omega), pb_b_some, if_neg hg0, q_div (by omega) (by omega) (by omega)]
      · rw [if_neg e, if_neg e, if_neg hg0, q_div (by omega) (by omega) (by omega)]
  · refine pOp.read hA hK (-1) (pC.same fun μ hC => ?_) (pM.same fun μ hM => ?_)
    · have hc4 : pb_CR (μ.1 (4 + 1)) 0 S.1 := hC.1
      unfold pX6_share
      rw [c_hasP hc4, if_neg h1, pb_b_some, if_pos (show nI 0 = (0 : Int32) from rfl)]
    · unfold pX7_share
      rw [m_isP hM.1.2.2.1 hP, if_neg h1, pb_b_some, if_pos (show nI 0 = (0 : Int32) from rfl)]
end SHARE
