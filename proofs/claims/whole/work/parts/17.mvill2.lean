/-! the reference's days, breaking out, keeping -/
section MV
variable {μ : pb_M} {lv : Nat} {a : pb_Vg}
theorem pb_MM.with (hm : pb_MM μ lv a) {r : Nat → Int32} {a' : pb_Vg} (hr : pb_MR r (45 * lv) a') (h0 : a' 0 = a 0) (h1 : a' 1 = a 1) (hk : ∀ b, b < vB a → a' (37 + b) = a (37 + b)) : pb_MM (pb_sA μ 21 r) lv a' := by
  obtain ⟨-, g2, g3, g4⟩ := hm
  have e0 : vP a' = vP a := h0
  have e1 : vB a' = vB a := h1
  refine ⟨by rw [pb_sA_eq]; exact hr, fun b hb => ?_, ?_, ?_⟩
  · rw [e1] at hb
    rw [pb_sA_ne (by decide), hk b hb]
    exact g2 b hb
  · rw [pb_sA_ne (by decide), e0]; exact g3
  · rw [pb_sA_ne (by decide), e1]; exact g4
theorem m_feed (hm : pb_MM μ lv a) (hs : vS a) (hl : lv < 2) {b : Nat} (hb : b < vB a) (hB : vB a ≤ 5) (ho : a (27 + b) < 4) : ∃ r, pX7_feedOn (nI lv) (nI b) μ = some ((), pb_sA μ 21 r) ∧ pb_MR r (45 * lv) (vFeed a b) ∧ pb_Fr (μ.1 21) r (45 * lv) := by
  obtain ⟨hr, hk, -, -⟩ := hm
  have b1 := hs (47 + b) (by omega)
  have b2 := hs (3 + a (27 + b)) (by omega)
  have b3 := hs (32 + b) (by omega)
  have b4 := hs (37 + b) (by omega)
  have hb5 : b < 5 := by omega
  have hc1 : pb_MR (upd (μ.1 21) (45 * lv + 23 + b) (nI (a (47 + b) + 1))) (45 * lv) (pb_u a (47 + b) (a (47 + b) + 1)) := mu_dys hr hb5
  have f1 : pb_Fr (μ.1 21) (upd (μ.1 21) (45 * lv + 23 + b) (nI (a (47 + b) + 1))) (45 * lv) := pb_Fr.up (by omega) (by omega)
  have e1 : upd (μ.1 21) (45 * lv + 23 + b) (nI (a (47 + b) + 1)) (45 * lv + a (27 + b)) = nI (a (3 + a (27 + b))) := by rw [hc1.hay ho, pb_u_ne (by omega)]
  have e2 : upd (μ.1 21) (45 * lv + 23 + b) (nI (a (47 + b) + 1)) (45 * lv + 13 + b) = nI (a (32 + b)) := by rw [hc1.wor hb5, pb_u_ne (by omega)]
  have e3 : (pb_sA μ 21 (upd (μ.1 21) (45 * lv + 23 + b) (nI (a (47 + b) + 1)))).1 20 b = nI (a (37 + b)) := by rw [pb_sA_ne (by decide)]; exact hk b hb
  have ed := hr.dys hb5
  unfold vFeed
  by_cases hh : 0 < a (3 + a (27 + b))
  · rw [if_pos hh]
    refine ⟨upd (upd (μ.1 21) (45 * lv + 23 + b) (nI (a (47 + b) + 1))) (45 * lv + a (27 + b)) (nI (a (3 + a (27 + b)) - 1)), ?_, mu_hay hc1 ho, f1.tr (pb_Fr.up (by omega) (by omega))⟩
    simp (disch := omega) only [pX7_feedOn, q_mul, lz, q_add, q_in, q_cl, q_eq, q_lt, q_le, q_9, q_b10, q_b01, Nat.one_ne_zero, eq_self, if_true, if_false, pb_b_some, hr.own hb5, ed, pb_sA_sA, pb_sA_eq, e1, q_sub]
    rw [if_neg (by omega)]
  · rw [if_neg hh]
    have J : ∀ k : Nat, 1 ≤ k → k < 10 → ∃ r, pX7_feedOn_J85 (nI lv) (nI b) (nI (45 * lv)) (nI k) (nI (a (32 + b))) (pb_sA μ 21 (upd (μ.1 21) (45 * lv + 23 + b) (nI (a (47 + b) + 1)))) = some ((), pb_sA μ 21 r) ∧ pb_MR r (45 * lv) (if a (32 + b) - k = 0 then vHome (pb_u (pb_u a (47 + b) (a (47 + b) + 1)) (32 + b) 0) b else pb_u (pb_u a (47 + b) (a (47 + b) + 1)) (32 + b) (a (32 + b) - k)) ∧ pb_Fr (μ.1 21) r (45 * lv) := by
      intro k hk1 hk2
      have hc2 : pb_MR (upd (upd (μ.1 21) (45 * lv + 23 + b) (nI (a (47 + b) + 1))) (45 * lv + 13 + b) (nI (a (32 + b) - k))) (45 * lv) (pb_u (pb_u a (47 + b) (a (47 + b) + 1)) (32 + b) (a (32 + b) - k)) := mu_wor hc1 hb5
      have f2 : pb_Fr (μ.1 21) (upd (upd (μ.1 21) (45 * lv + 23 + b) (nI (a (47 + b) + 1))) (45 * lv + 13 + b) (nI (a (32 + b) - k))) (45 * lv) := f1.tr (pb_Fr.up (by omega) (by omega))
      have hc2' : pb_MR ((pb_sA μ 21 (upd (upd (μ.1 21) (45 * lv + 23 + b) (nI (a (47 + b) + 1))) (45 * lv + 13 + b) (nI (a (32 + b) - k)))).1 21) (45 * lv) (pb_u (pb_u a (47 + b) (a (47 + b) + 1)) (32 + b) (a (32 + b) - k)) := by rw [pb_sA_eq]; exact hc2
      unfold pX7_feedOn_J85
      by_cases hle : k < a (32 + b)
      · refine ⟨_, ?_, ?_, f2⟩
        · simp (disch := omega) only [lz, q_add, q_in, q_cl, q_eq, q_lt, q_le, q_9, q_b10, q_b01, Nat.one_ne_zero, eq_self, if_true, if_false, pb_b_some, q_sub, Nat.zero_le, pb_sA_sA, pb_sA_eq]
          rw [if_pos (by omega)]
        · rw [if_neg (by omega)]
          exact hc2
      · obtain ⟨r3, g1, g2, g3⟩ := m_home hc2' hl hb5
        rw [pb_sA_sA] at g1
        rw [pb_sA_eq] at g3
        have h0 : a (32 + b) - k = 0 := by omega
        rw [h0] at g1 g2 g3 f2 ⊢
        refine ⟨r3, ?_, by simpa using g2, f2.tr g3⟩
        by_cases hq : k = a (32 + b)
        · simp (disch := omega) only [lz, q_add, q_in, q_cl, q_eq, q_lt, q_le, q_9, q_b10, q_b01, Nat.one_ne_zero, eq_self, if_true, if_false, pb_b_some, q_sub, show k = a (32 + b) from hq, Nat.sub_self, Nat.le_refl, Nat.lt_irrefl, pb_sA_sA, pb_sA_eq, g1]
        · have h9 : nI (a (32 + b)) - nI k < (0 : Int32) := pk_sneg (by omega) (by omega)
          rw [if_neg (Int32.not_le.mpr h9), if_neg (Int32.not_lt.mpr (Int32.le_of_lt h9))]
          simp (disch := omega) only [lz, q_add, q_in, q_cl, q_eq, q_lt, q_le, q_9, q_b10, q_b01, Nat.one_ne_zero, eq_self, if_true, if_false, pb_b_some, pb_sA_sA, pb_sA_eq, g1]
    obtain ⟨r, hf1, hf2, hf3⟩ := J (if a (37 + b) = 2 then 2 else 1) (by split <;> omega) (by split <;> omega)
    refine ⟨r, ?_, hf2, hf3⟩
    rw [← hf1]
    simp (disch := omega) only [pX7_feedOn, q_mul, lz, q_add, q_in, q_cl, q_eq, q_lt, q_le, q_9, q_b10, q_b01, Nat.one_ne_zero, eq_self, if_true, if_false, pb_b_some, hr.own hb5, ed, pb_sA_sA, pb_sA_eq, e1, e2, e3]
    rw [if_pos (by omega)]
    split <;> rfl
theorem m_passL (hl : lv < 2) {K : pb_M → Option (Unit × pb_M)} : ∀ (c b n M : Nat) (r : Nat → Int32) (z : pb_Vg), b + c = vB z → c < n → 100 ≤ M → M + c ≤ 900000 → pb_MM (pb_sA μ 21 r) lv z → vOk M z → ∃ r', pX7_passOn_L2 (nI lv) K n (nI b) (pb_sA μ 21 r) = K (pb_sA μ 21 r') ∧ pb_MM (pb_sA μ 21 r') lv (pb_it (fun b z => vPassB z b) c b z) ∧ pb_Fr r r' (45 * lv)
  | _, _, 0, _, _, _, _, hn, _, _, _, _ => by omega
  | 0, b, n + 1, M, r, z, hb, _, hM, hM2, hm, hz => by
    have hB := hz.1.2
    refine ⟨r, ?_, hm, pb_Fr.rf⟩
    simp (disch := omega) only [pX7_passOn_L2, hm.2.2.2, lz, q_add, q_in, q_cl, q_eq, q_lt, q_le, q_9, q_b10, q_b01, Nat.one_ne_zero, eq_self, if_true, if_false, pb_b_some, show b = vB z by omega, Nat.le_refl]
  | c + 1, b, n + 1, M, r, z, hb, hn, hM, hM2, hm, hz => by
    have hB := hz.1.2
    have hP := hz.1.1
    have hs : vS z := hz.s (by omega)
    have h1 := hz.2.1 b (by omega)
    obtain ⟨k1, k2⟩ := hz.passB (b := b) (by omega) hM
    have e1 : vB (vPassB z b) = vB z := k2 1 (by omega)
    show ∃ r', pX7_passOn_L2 (nI lv) K (n + 1) (nI b) (pb_sA μ 21 r) = K (pb_sA μ 21 r') ∧ pb_MM (pb_sA μ 21 r') lv (pb_it (fun b z => vPassB z b) c (b + 1) (vPassB z b)) ∧ pb_Fr r r' (45 * lv)
    simp (disch := omega) only [pX7_passOn_L2, hm.2.2.2, m_isIn hm.1 hs hl (show b < 5 by omega), lz, q_add, q_in, q_cl, q_eq, q_lt, q_le, q_9, q_b10, q_b01, Nat.one_ne_zero, eq_self, if_true, if_false, pb_b_some]
    rw [if_neg (by omega)]
    by_cases e : z (42 + b) = 0
    · rw [if_pos e]
      have e2 : vPassB z b = z := by unfold vPassB; rw [if_pos e]
      rw [e2]
      exact m_passL hl c (b + 1) n M r z (by omega) (by omega) hM (by omega) hm hz
    · rw [if_neg e]
      have e2 : vPassB z b = vFeed z b := by unfold vPassB; rw [if_neg e]
      obtain ⟨r1, g1, g2, g3⟩ := m_feed hm hs hl (b := b) (by omega) hB (by omega)
      rw [pb_sA_sA] at g1
      rw [pb_sA_eq] at g3
      simp only [g1, pb_b_some]
      rw [e2] at k1 e1 k2 ⊢
      have hm1 := hm.with g2 (k2 0 (by omega)) (k2 1 (by omega)) (fun b' hb' => k2 (37 + b') (by omega))
      rw [pb_sA_sA] at hm1
      obtain ⟨r', q1, q2, q3⟩ := m_passL (K := K) hl c (b + 1) n (M + 1) r1 (vFeed z b) (by omega) (by omega) (by omega) (by omega) hm1 k1
      exact ⟨r', q1, q2, g3.tr q3⟩
theorem m_pass {M : Nat} (hm : pb_MM μ lv a) (hl : lv < 2) (hz : vOk M a) (hM : 100 ≤ M) (hM2 : M ≤ 800000) : ∃ r, pX7_passOn (nI lv) μ = some ((), pb_sA μ 21 r) ∧ pb_MM (pb_sA μ 21 r) lv (vPass a) ∧ pb_Fr (μ.1 21) r (45 * lv) := by
  have hB := hz.1.2
  have hm0 : pb_MM (pb_sA μ 21 (μ.1 21)) lv a := by rw [pb_sA_self]; exact hm
  obtain ⟨r1, g1, g2, g3⟩ := m_passL (μ := μ) (K := (fun μk31 =>
    if pb_in (((45 : Int32) * nI lv) + (44 : Int32)) 90 then
      if pb_in (((45 : Int32) * nI lv) + (44 : Int32)) 90 then
        some ((), (pb_sA μk31 21 (upd (μk31.1 21) ((((45 : Int32) * nI lv) + (44 : Int32))).toNatClampNeg ((μk31.1 21 ((((45 : Int32) * nI lv) + (44 : Int32))).toNatClampNeg) + (1 : Int32)))))
      else none
    else none)) hl (vB a) 0 pb_F M (μ.1 21) a (by omega) (pb_Fgt (by omega)) hM (by omega) hm0 hz
  rw [pb_sA_self] at g1
  have hr1 := g2.1
  rw [pb_sA_eq] at hr1
  obtain ⟨h1, h2⟩ := vOk.passIt (vB a) 0 M a (by omega) hM hz
  refine ⟨upd r1 (45 * lv + 44) (nI (pb_it (fun b z => vPassB z b) (vB a) 0 a 2 + 1)), ?_, ?_, g3.tr (pb_Fr.up (by omega) (by omega))⟩
  · unfold pX7_passOn
    rw [show (0 : Int32) = nI 0 from rfl, g1]
    simp (disch := omega) only [q_mul, lz, q_add, q_in, q_cl, q_eq, q_lt, q_le, q_9, q_b10, q_b01, Nat.one_ne_zero, eq_self, if_true, if_false, pb_b_some, pb_sA_sA, pb_sA_eq, hr1.day]
  · have := g2.with (mu_day hr1 (x := pb_it (fun b z => vPassB z b) (vB a) 0 a 2 + 1)) (pb_u_ne (by omega)) (pb_u_ne (by omega)) (fun b' hb' => pb_u_ne (by omega))
    rw [pb_sA_sA] at this
    exact this
theorem m_canKeep (hm : pb_MR (μ.1 21) (45 * lv) a) (hs : vS a) (hl : lv < 2) {b : Nat} (hb : b < 5) : pX7_canKeep (nI lv) (nI b) μ = some (nI (if a (42 + b) ≠ 0 ∧ 3 ≤ a (47 + b) then 1 else 0), μ) := by
  have h1 := hs (47 + b) (by omega)
  simp (disch := omega) only [pX7_canKeep, m_isIn hm hs hl hb, hm.dys hb, q_mul, lz, q_add, q_in, q_cl, q_eq, q_lt, q_le, q_9, q_b10, q_b01, Nat.one_ne_zero, eq_self, if_true, if_false, pb_b_some]
  by_cases e1 : a (42 + b) = 0
  · simp [e1]
  · by_cases e2 : a (47 + b) ≤ 2
    · simp [e1, e2, show ¬ 3 ≤ a (47 + b) by omega]
    · simp [e1, e2, show 3 ≤ a (47 + b) by omega]
theorem m_run {M : Nat} (hm : pb_MM μ lv a) (hl : lv < 2) (hz : vOk M a) (hM2 : M ≤ 900000) {b : Nat} (hb : b < vB a) (hh : a (42 + b) ≠ 0) : ∃ r, pX7_breakOn (nI lv) (nI b) μ = some ((), pb_sA μ 21 r) ∧ pb_MM (pb_sA μ 21 r) lv (vRun a b) ∧ pb_Fr (μ.1 21) r (45 * lv) := by
  have hB := hz.1.2
  have hP := hz.1.1
  have h1 := hz.2.1 b hb
  have hb5 : b < 5 := by omega
  obtain ⟨k, hk⟩ : ∃ k, a (42 + b) = k + 1 := ⟨a (42 + b) - 1, by omega⟩
  have hd : vDebt a (a (27 + b)) k < 1000000 := by have := (hz.2.2.1 (a (27 + b)) k (by omega) (by omega)).1; omega
  obtain ⟨r1, g1, g2, g3⟩ := m_add hm.1 hl (i := a (27 + b)) (j := k) (x := 3) (by omega) (by omega) (by omega) hd
  have hc1 : pb_MR ((pb_sA μ 21 r1).1 21) (45 * lv) (vAdd a (a (27 + b)) k 3) := by rw [pb_sA_eq]; exact g2
  obtain ⟨r2, g4, g5, g6⟩ := m_home hc1 hl (b := b) hb5
  rw [pb_sA_sA] at g4
  rw [pb_sA_eq] at g6
  have e : vRun a b = vHome (vAdd a (a (27 + b)) k 3) b := by unfold vRun; rw [hk]; rfl
  refine ⟨r2, ?_, ?_, g3.tr g6⟩
  · simp (disch := omega) only [pX7_breakOn, q_mul, lz, q_add, q_in, q_cl, q_eq, q_lt, q_le, q_9, q_b10, q_b01, Nat.one_ne_zero, eq_self, if_true, if_false, pb_b_some, hm.1.own hb5, hm.1.hol hb5, hk, pb_e_s, g1, g4]
  · refine hm.with (by rw [e]; exact g5) ?_ ?_ (fun b' hb' => ?_)
    all_goals
      rw [e]
      unfold vHome vAdd
      rw [pb_u_ne (by omega), pb_u_ne (by omega), pb_u_ne (by omega)]
theorem m_keep {M : Nat} (hm : pb_MM μ lv a) (hl : lv < 2) (hz : vOk M a) (hM2 : M ≤ 900000) {b : Nat} (hb : b < vB a) (hh : a (42 + b) ≠ 0) : ∃ r, pX7_keepOn (nI lv) (nI b) μ = some ((), pb_sA μ 21 r) ∧ pb_MM (pb_sA μ 21 r) lv (vKeep a b) ∧ pb_Fr (μ.1 21) r (45 * lv) := by
  have hB := hz.1.2
  have hP := hz.1.1
  have h1 := hz.2.1 b hb
  have h2 := hz.2.2.2 (32 + b) (by omega)
  have hb5 : b < 5 := by omega
  obtain ⟨k, hk⟩ : ∃ k, a (42 + b) = k + 1 := ⟨a (42 + b) - 1, by omega⟩
  have hd : vDebt a (a (27 + b)) k ≤ 99 := (hz.2.2.1 (a (27 + b)) k (by omega) (by omega)).1
  obtain ⟨r1, g1, g2, g3⟩ := m_less hm.1 hl (i := a (27 + b)) (j := k) (x := a (32 + b)) (by omega) (by omega) (by omega) hd
  have hc1 : pb_MR (upd r1 (45 * lv + 8 + b) (nI k)) (45 * lv) (pb_u (vLess a (a (27 + b)) k (a (32 + b))) (27 + b) k) := mu_own g2 hb5
  have hc1' : pb_MR ((pb_sA μ 21 (upd r1 (45 * lv + 8 + b) (nI k))).1 21) (45 * lv) (pb_u (vLess a (a (27 + b)) k (a (32 + b))) (27 + b) k) := by rw [pb_sA_eq]; exact hc1
  obtain ⟨r2, g4, g5, g6⟩ := m_home hc1' hl (b := b) hb5
  rw [pb_sA_sA] at g4
  rw [pb_sA_eq] at g6
  have e : vKeep a b = vHome (pb_u (vLess a (a (27 + b)) k (a (32 + b))) (27 + b) k) b := by unfold vKeep; rw [hk]; rfl
  refine ⟨r2, ?_, ?_, (g3.tr (pb_Fr.up (by omega) (by omega))).tr g6⟩
  · simp (disch := omega) only [pX7_keepOn, q_mul, lz, q_add, q_in, q_cl, q_eq, q_lt, q_le, q_9, q_b10, q_b01, Nat.one_ne_zero, eq_self, if_true, if_false, pb_b_some, hm.1.own hb5, hm.1.hol hb5, hm.1.wor hb5, hk, pb_e_s, g1, g4, pb_sA_sA, pb_sA_eq]
  · refine hm.with (by rw [e]; exact g5) ?_ ?_ (fun b' hb' => ?_)
    all_goals
      rw [e]
      unfold vHome vLess
      rw [pb_u_ne (by omega), pb_u_ne (by omega), pb_u_ne (by omega), pb_u_ne (by omega)]
end MV
