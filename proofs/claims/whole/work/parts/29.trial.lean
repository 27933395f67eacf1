/-! the trial: a copy of the village on which days are passed -/
section TRIAL
variable {K : Nat} {S : pb_S}
def vDays (k : Nat) (a : pb_Vg) : pb_Vg := pb_it (fun _ z => vPass z) k 0 a
theorem c_trial {μ : pb_M} {a : pb_Vg} (hc : pb_CR (μ.1 5) 0 a) : ∃ f, pX5_copyFrom 6 4 μ = some ((), pb_sA μ (6 + 1) f) ∧ pb_CR f 0 a := by
  refine ⟨va_cpy (μ.1 5) (μ.1 7) 0 0 52, ?_, CR_cpy hc⟩
  unfold pX5_copyFrom
  rw [show (0 : Int32) = nI 0 from rfl, show (52 : Int32) = nI 52 from rfl, q_cp (by omega) (by omega) (by omega) (by omega), if_pos rfl, q_cl (by omega), q_cl (by omega)]
theorem m_trial {μ : pb_M} {a : pb_Vg} (hm : pb_MM μ 0 a) : ∃ r, pX7_layTrial μ = some ((), pb_sA μ 21 r) ∧ pb_MM (pb_sA μ 21 r) 1 a ∧ pb_Fr (μ.1 21) r 45 := by
  have := lp_copy (fun n b r => pX7_layTrial_L2 n (nI b) (pb_sA μ 21 r)) (fun r => some ((), pb_sA μ 21 r)) (fun k => μ.1 21 k) 45 45 (μ.1 21) (fun n r _ => by
      simp (disch := omega) only [pX7_layTrial_L2, lz, q_add, q_in, q_cl, q_eq, q_lt, q_le, q_9, q_b10, q_b01, Nat.one_ne_zero, eq_self, if_true, if_false, pb_b_some, Nat.le_refl]) (fun n b r hb h => by
      simp (disch := omega) only [pX7_layTrial_L2, lz, q_add, q_in, q_cl, q_eq, q_lt, q_le, q_9, q_b10, q_b01, Nat.one_ne_zero, eq_self, if_true, if_false, pb_b_some, pb_sA_sA, pb_sA_eq, h b (by omega)]
      rw [if_neg (by omega)]) pb_F (pb_Fgt (by omega))
  obtain ⟨r, g1, g2, g3⟩ := this
  rw [pb_sA_self] at g1
  refine ⟨r, g1, ?_, g3⟩
  have e19 : (pb_sA μ 21 r).1 19 = μ.1 19 := pb_sA_ne (by decide)
  have e20 : (pb_sA μ 21 r).1 20 = μ.1 20 := pb_sA_ne (by decide)
  refine ⟨?_, fun b hb => by rw [e20]; exact hm.2.1 b hb, by rw [e19]; exact hm.2.2.1, by rw [e19]; exact hm.2.2.2⟩
  rw [pb_sA_eq]
  exact MR_of hm.1 (fun k hk => by
    rw [show 45 * 1 + k = 45 + k by omega, show 45 * 0 + k = k by omega]
    exact g2 k hk)
theorem c_daysL {μ : pb_M} {v1 : Int32} {k : Nat} (hk : k < 100) : ∀ (c b n M : Nat) (f : Nat → Int32) (z : pb_Vg), b + c = k → c < n → 100 ≤ M → M + 6 * c ≤ 800000 → pb_CR f 0 z → vOk M z → ∃ f', (∀ Kc, pX6_worth_L39 v1 (nI k) Kc n (nI b) (pb_sA μ (6 + 1) f) = Kc (pb_sA μ (6 + 1) f')) ∧ pb_CR f' 0 (pb_it (fun _ z => vPass z) c b z)
  | _, _, 0, _, _, _, _, hn, _, _, _, _ => by omega
  | 0, b, n + 1, M, f, z, hb, _, hM, hM2, hc, hz => by
    refine ⟨f, fun Kc => ?_, hc⟩
    rw [pX6_worth_L39, if_pos ((nI_leI (by omega) (by omega)).mpr (by omega))]
  | c + 1, b, n + 1, M, f, z, hb, hn, hM, hM2, hc, hz => by
    have hc' : pb_CR ((pb_sA μ (6 + 1) f).1 (6 + 1)) 0 z := by rw [pb_sA_eq]; exact hc
    obtain ⟨f1, g1, g2⟩ := c_pass hc' hz hM (by omega)
    rw [pb_sA_sA] at g1
    obtain ⟨f', k1, k2⟩ := c_daysL hk c (b + 1) n (M + 6) f1 (vPass z) (by omega) (by omega) (by omega) (by omega) g2 (hz.pass hM).1
    refine ⟨f', fun Kc => ?_, k2⟩
    rw [pX6_worth_L39, if_neg (fun z => (show ¬ k ≤ b by omega) ((nI_leI (by omega) (by omega)).mp z)), g1, pb_b_some, show (1 : Int32) = nI 1 from rfl, nI_add]
    exact k1 Kc
theorem m_daysL {μ : pb_M} {x k : Nat} (hx : x < 5) (hk : k < 100) : ∀ (c b n M : Nat) (r : Nat → Int32) (z : pb_Vg), b + c = k → c < n → 100 ≤ M → M + 6 * c ≤ 800000 → pb_MM (pb_sA μ 21 r) 1 z → vOk M z → ∃ r', pX7_worth_L31 (nI x) (nI k) n (nI b) (pb_sA μ 21 r) = some (nI (pb_it (fun _ z => vPass z) c b z (32 + x)), pb_sA μ 21 r') ∧ pb_Fr r r' 45
  | _, _, 0, _, _, _, _, hn, _, _, _, _ => by omega
  | 0, b, n + 1, M, r, z, hb, _, hM, hM2, hm, hz => by
    refine ⟨r, ?_, pb_Fr.rf⟩
    have hw : (pb_sA μ 21 r).1 21 (58 + x) = nI (z (32 + x)) := hm.1.wor hx
    show _ = some (nI (z (32 + x)), _)
    rw [pX7_worth_L31, if_pos ((nI_leI (by omega) (by omega)).mpr (by omega)), show (58 : Int32) + nI x = nI (58 + x) from nI_add 58 x, if_pos (q_in (by omega) (by omega)), q_cl (by omega), hw]
  | c + 1, b, n + 1, M, r, z, hb, hn, hM, hM2, hm, hz => by
    obtain ⟨r1, g1, g2, g3⟩ := m_pass hm (by omega) hz hM (by omega)
    rw [pb_sA_sA] at g1 g2
    rw [pb_sA_eq] at g3
    obtain ⟨r', k1, k2⟩ := m_daysL hx hk c (b + 1) n (M + 6) r1 (vPass z) (by omega) (by omega) (by omega) (by omega) g2 (hz.pass hM).1
    refine ⟨r', ?_, g3.tr k2⟩
    rw [pX7_worth_L31, if_neg (fun z => (show ¬ k ≤ b by omega) ((nI_leI (by omega) (by omega)).mp z)), show (1 : Int32) = nI 1 from rfl, g1, pb_b_some, nI_add]
    exact k1
theorem in09 {x : Int32} : ((0 : Int64) ≤ x.toInt64 ∧ x.toInt64 ≤ (9 : Int64)) = (inR x 10 = true) := by
  rw [l_0, show (9 : Int64) = (nI 10 - (1 : Int32)).toInt64 from by decide]
  simp only [l_le, le_pred (show 10 < 1000000 by omega)]
  unfold inR
  simp
theorem out10 {x : Int32} (h : ¬ inR x 10 = true) : x < 0 ∨ (¬ x < 0 ∧ ¬ x ≤ 9) := by
  by_cases h0 : x < 0
  · exact Or.inl h0
  · refine Or.inr ⟨h0, fun q => h ?_⟩
    unfold inR
    simp only [Bool.and_eq_true, decide_eq_true_eq]
    refine ⟨Int32.not_lt.mp h0, ?_⟩
    obtain ⟨j, hj, rfl⟩ := nI_of2 (x := x) (M := 9) (n := 9) (by decide) h0 q
    exact (nI_ltI (by omega) (by omega)).mpr (by omega)
set_option maxRecDepth 100000 in
theorem op_worth (hA : InvA K S) (hK : K + 1 ≤ 64) (x w : Int32) : pOp K S (pX6_worth x w) (pX7_worth x w) := by
  have hB := hA.1.1.1.2
  by_cases h1 : inR x (vB S.1) = true
  · by_cases h2 : inR w 10 = true
    · obtain ⟨b, hb, rfl⟩ := inR_of h1 (by omega)
      obtain ⟨k, hk, rfl⟩ := inR_of h2 (by omega)
      have hb5 : b < 5 := by omega
      have hK2 := hA.1.2
      refine pOp.read hA hK (nI (vDays k S.1 (32 + b))) (pC.read fun μ hC => ?_) (pM.read fun μ hM => ?_)
      · have hc : pb_CR (μ.1 (4 + 1)) 0 S.1 := hC.1
        obtain ⟨f, g1, g2⟩ := c_trial hC.1
        obtain ⟨f', k1, k2⟩ := c_daysL (μ := μ) (v1 := nI b) (k := k) (by omega) k 0 pb_F (100 + 10 * K) f S.1 (by omega) (pb_Fgt (by omega)) (by omega) (by omega) g2 hA.1.1
        have k3 : pb_CR ((pb_sA μ (6 + 1) f').1 (6 + 1)) 0 (vDays k S.1) := by rw [pb_sA_eq]; exact k2
        refine ⟨pb_sA μ (6 + 1) f', ?_, agC.sA (by omega), frC.sA (by omega)⟩
        unfold pX6_worth
        rw [c_hasB hc, if_pos h1, pb_b_some, if_neg (by decide), if_neg (show ¬ nI k < (0 : Int32) from fun z => (show ¬ k < 0 by omega) ((nI_ltI (b := 0) (by omega) (by omega)).mp z)), if_pos (show nI k ≤ (9 : Int32) from (nI_leI (b := 9) (by omega) (by omega)).mpr (by omega)), g1, pb_b_some, show (0 : Int32) = nI 0 from rfl]
        refine (k1 _).trans ?_
        rw [c_wor k3 hb5, pb_b_some]
      · obtain ⟨r, g1, g2, g3⟩ := m_trial hM.1
        obtain ⟨r', k1, k2⟩ := m_daysL (μ := μ) hb5 (k := k) (by omega) k 0 pb_F (100 + 10 * K) r S.1 (by omega) (pb_Fgt (by omega)) (by omega) (by omega) g2 hA.1.1
        refine ⟨pb_sA μ 21 r', ?_, agM.s21 (g3.tr k2), frM.sA (by omega)⟩
        unfold pX7_worth
        rw [m_isB hM.1.2.2.2 hB, if_pos h1, pb_b_some, if_neg (by decide), m_in]
        simp only [in09]
        rw [if_pos h2, pb_b_some, if_neg (by decide), g1, pb_b_some, show (0 : Int32) = nI 0 from rfl]
        exact k1
    · refine pOp.read hA hK (-2) (pC.same fun μ hC => ?_) (pM.same fun μ hM => ?_)
      · have hc : pb_CR (μ.1 (4 + 1)) 0 S.1 := hC.1
        unfold pX6_worth
        rw [c_hasB hc, if_pos h1, pb_b_some, if_neg (by decide)]
        rcases out10 h2 with q | ⟨q, q'⟩
        · rw [if_pos q]
        · rw [if_neg q, if_neg q']
      · unfold pX7_worth
        rw [m_isB hM.1.2.2.2 hB, if_pos h1, pb_b_some, if_neg (by decide), m_in]
        simp only [in09]
        rw [if_neg h2, pb_b_some, if_pos (show nI 0 = (0 : Int32) from rfl)]
  · refine pOp.read hA hK (-1) (pC.same fun μ hC => ?_) (pM.same fun μ hM => ?_)
    · have hc : pb_CR (μ.1 (4 + 1)) 0 S.1 := hC.1
      unfold pX6_worth
      rw [c_hasB hc, if_neg h1, pb_b_some, if_pos (show nI 0 = (0 : Int32) from rfl)]
    · unfold pX7_worth
      rw [m_isB hM.1.2.2.2 hB, if_neg h1, pb_b_some, if_pos (show nI 0 = (0 : Int32) from rfl)]
end TRIAL
