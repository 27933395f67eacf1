/-! undo, slots, pay -/
section OPS
variable {K : Nat} {S : pb_S}
def pb_popS (S : pb_S) : pb_S := (S.2.2.2.2.1 0, S.2.1, S.2.2.1, S.2.2.2.1 - 1, (fun j => S.2.2.2.2.1 (j + 1)), S.2.2.2.2.2)
set_option maxRecDepth 100000 in
theorem op_undo (hA : InvA K S) (hK : K + 1 ≤ 64) : pOp K S pX6_undo pX7_undo := by
  have hsz := hA.2.2.1.1
  by_cases h0 : S.2.2.2.1 = 0
  · refine pOp.read hA hK (-3) (pC.same fun μ hC => ?_) (pM.same fun μ hM => ?_)
    · obtain ⟨-, -, ⟨c, hc, h3, -⟩, -⟩ := hC
      simp (disch := omega) only [pX6_undo, pX0_takeBack, h3, h0, lz, q_add, q_in, q_cl, q_eq, q_lt, q_le, q_9, q_b10, q_b01, Nat.one_ne_zero, eq_self, if_true, if_false, pb_b_some]
    · obtain ⟨-, -, ⟨c, hc, h3, -⟩, -⟩ := hM
      simp (disch := omega) only [pX7_undo, h3, h0, lz, q_add, q_in, q_cl, q_eq, q_lt, q_le, q_9, q_b10, q_b01, Nat.one_ne_zero, eq_self, if_true, if_false, pb_b_some]
  · refine ⟨nI (S.2.2.2.1 - 1), pb_popS S, fun μ hC => ?_, fun μ hM => ?_, ?_⟩
    · obtain ⟨h1, h2, ⟨c, hc, h3, h4, h5⟩, h6, h7⟩ := hC
      have q1 : (c + 14 - 1) % 14 < 14 := Nat.mod_lt _ (by omega)
      have hcr := h5 0 (by omega)
      have hft : ∀ ν : pb_M, pX5_fetch 4 9 (nI ((c + 14 - 1) % 14)) ν = some ((), pb_sA ν 5 (va_cpy (ν.1 9) (ν.1 5) ((c + 14 - 1) % 14 * 52) 0 52)) := fun ν => by
        unfold pX5_fetch
        rw [show pb_ln 9 = 728 from rfl]
        simp (disch := omega) only [lz, q_mul, q_cp, q_cl, if_true]
      have e9 : (pb_sA μ 8 (upd (upd (μ.1 8) 2 (nI ((c + 14 - 1) % 14))) 1 (nI (S.2.2.2.1 - 1)))).1 9 = μ.1 9 := pb_sA_ne (by decide)
      refine ⟨pb_sA (pb_sA μ 8 (upd (upd (μ.1 8) 2 (nI ((c + 14 - 1) % 14))) 1 (nI (S.2.2.2.1 - 1)))) 5 (va_cpy (μ.1 9) (μ.1 5) ((c + 14 - 1) % 14 * 52) 0 52), ?_, ⟨?_, ?_, ⟨(c + 14 - 1) % 14, q1, ?_, ?_, fun j hj => ?_⟩, ?_, h7⟩, (frC.sA (by omega)).tr (frC.sA (by omega))⟩
      · have e5 : (pb_sA μ 8 (upd (upd (μ.1 8) 2 (nI ((c + 14 - 1) % 14))) 1 (nI (S.2.2.2.1 - 1)))).1 5 = μ.1 5 := pb_sA_ne (by decide)
        simp (disch := omega) only [pX6_undo, pX0_takeBack, pX0_size, h3, h4, h0, lz, q_add, q_in, q_cl, q_eq, q_lt, q_le, q_9, q_b10, q_b01, Nat.one_ne_zero, eq_self, if_true, if_false, pb_b_some, q_sub, q_rem, pb_sA_sA, pb_sA_eq, upd_ne, upd_eq, hft, e9, e5, pb_sA_ne, ne_eq, show ¬ (8 = 5) by decide, not_false_eq_true]
      · rw [pb_sA_eq]
        have := CR_cpy (g := μ.1 5) (d := 0) hcr
        rwa [show 52 * ((c + 13 - 0) % 14) = (c + 14 - 1) % 14 * 52 by omega] at this
      · rw [pb_sA_ne (by decide), pb_sA_ne (by decide), pb_sA_ne (by decide), pb_sA_ne (by decide)]; exact h2
      · rw [pb_sA_ne (by decide), pb_sA_eq, upd_eq]; rfl
      · rw [pb_sA_ne (by decide), pb_sA_eq, upd_ne (by decide), upd_eq]
      · rw [pb_sA_ne (by decide), pb_sA_ne (by decide)]
        have hj' : j < S.2.2.2.1 - 1 := hj
        show pb_CR _ _ (S.2.2.2.2.1 (j + 1))
        rw [show ((c + 14 - 1) % 14 + 13 - j) % 14 = (c + 13 - (j + 1)) % 14 by omega]
        exact h5 (j + 1) (by omega)
      · rw [pb_sA_ne (by decide), pb_sA_ne (by decide), pb_sA_ne (by decide), pb_sA_ne (by decide)]; exact h6
    · obtain ⟨h1, h2, ⟨c, hc, h3, h4, h5⟩, h6, h7⟩ := hM
      have q1 : (c + 13) % 14 < 14 := Nat.mod_lt _ (by omega)
      have hcr := h5 0 (by omega)
      have hsm := (hA.2.2.1.2 0 (by omega)).2
      obtain ⟨r, g1, g2, g3⟩ := lp_copy (fun n b r => pX7_undo_L36 n (nI b) (pb_sA (pb_sA μ 19 (upd (upd (μ.1 19) 12 (nI (S.2.2.2.1 - 1))) 13 (nI ((c + 13) % 14)))) 21 r)) (fun r => some (nI (S.2.2.2.1 - 1), pb_sA (pb_sA μ 19 (upd (upd (μ.1 19) 12 (nI (S.2.2.2.1 - 1))) 13 (nI ((c + 13) % 14)))) 21 r)) (fun k => μ.1 25 (45 * ((c + 13) % 14) + k)) 0 45 (μ.1 21) (fun n r _ => by
        have e19 : (pb_sA (pb_sA μ 19 (upd (upd (μ.1 19) 12 (nI (S.2.2.2.1 - 1))) 13 (nI ((c + 13) % 14)))) 21 r).1 19 12 = nI (S.2.2.2.1 - 1) := by rw [pb_sA_ne (by decide), pb_sA_eq, upd_ne (by decide), upd_eq]
        simp (disch := omega) only [pX7_undo_L36, lz, q_add, q_in, q_cl, q_eq, q_lt, q_le, q_9, q_b10, q_b01, Nat.one_ne_zero, eq_self, if_true, if_false, pb_b_some, Nat.le_refl, e19]) (fun n b r hb _ => by
        have e19 : (pb_sA (pb_sA μ 19 (upd (upd (μ.1 19) 12 (nI (S.2.2.2.1 - 1))) 13 (nI ((c + 13) % 14)))) 21 r).1 19 13 = nI ((c + 13) % 14) := by rw [pb_sA_ne (by decide), pb_sA_eq, upd_eq]
        have e25 : (pb_sA (pb_sA μ 19 (upd (upd (μ.1 19) 12 (nI (S.2.2.2.1 - 1))) 13 (nI ((c + 13) % 14)))) 21 r).1 25 = μ.1 25 := by rw [pb_sA_ne (by decide), pb_sA_ne (by decide)]
        simp (disch := omega) only [pX7_undo_L36, e19, e25, q_mul, lz, q_add, q_in, q_cl, q_eq, q_lt, q_le, q_9, q_b10, q_b01, Nat.one_ne_zero, eq_self, if_true, if_false, pb_b_some, pb_sA_sA, pb_sA_eq, Nat.zero_add]
        rw [if_neg (by omega)]) pb_F (pb_Fgt (by omega))
      have e21 : (pb_sA μ 19 (upd (upd (μ.1 19) 12 (nI (S.2.2.2.1 - 1))) 13 (nI ((c + 13) % 14)))).1 21 = μ.1 21 := pb_sA_ne (by decide)
      rw [← e21, pb_sA_self] at g1
      have f0 : ∀ k, k ≠ 12 → k ≠ 13 → (pb_sA (pb_sA μ 19 (upd (upd (μ.1 19) 12 (nI (S.2.2.2.1 - 1))) 13 (nI ((c + 13) % 14)))) 21 r).1 19 k = μ.1 19 k := fun k k1 k2 => by rw [pb_sA_ne (by decide), pb_sA_eq, upd_ne k2, upd_ne k1]
      have eP : vP (S.2.2.2.2.1 0) = vP S.1 := hsm.1
      have eB : vB (S.2.2.2.2.1 0) = vB S.1 := hsm.2.1
      refine ⟨pb_sA (pb_sA μ 19 (upd (upd (μ.1 19) 12 (nI (S.2.2.2.1 - 1))) 13 (nI ((c + 13) % 14)))) 21 r, ?_, ⟨⟨?_, fun b hb => ?_, ?_, ?_⟩, ⟨?_, ?_⟩, ⟨(c + 13) % 14, q1, ?_, ?_, fun j hj => ?_⟩, ?_, h7⟩, (frM.sA (by omega)).tr (frM.sA (by omega))⟩
      · unfold pX7_undo
        simp (disch := omega) only [h3, h4, h0, lz, q_add, q_in, q_cl, q_eq, q_lt, q_le, q_9, q_b10, q_b01, Nat.one_ne_zero, eq_self, if_true, if_false, pb_b_some, q_sub, q_rem, pb_sA_sA, pb_sA_eq, upd_ne, upd_eq]
        exact g1
      · rw [pb_sA_eq]
        exact MR_of hcr (fun k hk => by rw [Nat.mul_zero, g2 k hk]; rfl)
      · rw [pb_sA_ne (by decide), pb_sA_ne (by decide)]
        have hb' : b < vB S.1 := by rw [← eB]; exact hb
        show _ = nI (S.2.2.2.2.1 0 (37 + b))
        rw [hsm.2.2 b hb']
        exact h1.2.1 b hb'
      · rw [f0 0 (by decide) (by decide)]
        show _ = nI (vP (S.2.2.2.2.1 0))
        rw [eP]; exact h1.2.2.1
      · rw [f0 1 (by decide) (by decide)]
        show _ = nI (vB (S.2.2.2.2.1 0))
        rw [eB]; exact h1.2.2.2
      · rw [f0 9 (by decide) (by decide)]; exact h2.1
      · rw [pb_sA_ne (by decide), pb_sA_ne (by decide)]; exact h2.2
      · rw [pb_sA_ne (by decide), pb_sA_eq, upd_ne (by decide), upd_eq]; rfl
      · rw [pb_sA_ne (by decide), pb_sA_eq, upd_eq]
      · rw [pb_sA_ne (by decide), pb_sA_ne (by decide)]
        have hj' : j < S.2.2.2.1 - 1 := hj
        show pb_MR _ _ (S.2.2.2.2.1 (j + 1))
        rw [show ((c + 13) % 14 + 13 - j) % 14 = (c + 13 - (j + 1)) % 14 by omega]
        exact h5 (j + 1) (by omega)
      · rw [pb_sA_ne (by decide), pb_sA_ne (by decide), pb_sA_ne (by decide), pb_sA_ne (by decide)]; exact h6
    · have h := hA.mono hK
      obtain ⟨⟨h1, h1'⟩, h2, ⟨h3, h4⟩, h5⟩ := h
      have hs0 := (h4 0 (by omega)).2
      refine ⟨⟨(h4 0 (by omega)).1, h1'⟩, h2, ⟨?_, fun j hj => ?_⟩, fun s hss v hv => ⟨(h5 s hss v hv).1, (h5 s hss v hv).2.to hs0⟩⟩
      · show S.2.2.2.1 - 1 ≤ 14
        omega
      · have hj' : j < S.2.2.2.1 - 1 := hj
        exact ⟨(h4 (j + 1) (by omega)).1, (h4 (j + 1) (by omega)).2.to hs0⟩
theorem in01 {x : Int32} : ((0 : Int64) ≤ x.toInt64 ∧ x.toInt64 ≤ (1 : Int64)) = (inR x 2 = true) := by
  rw [l_0, show (1 : Int64) = (nI 2 - (1 : Int32)).toInt64 from by decide]
  simp only [l_le, le_pred (show 2 < 1000000 by omega)]
  unfold inR
  simp
theorem out2 {x : Int32} (h : ¬ inR x 2 = true) : x < 0 ∨ (¬ x < 0 ∧ ¬ x < 2) := by
  by_cases h0 : x < 0
  · exact Or.inl h0
  · refine Or.inr ⟨h0, fun q => h ?_⟩
    unfold inR
    simp only [Bool.and_eq_true, decide_eq_true_eq]
    exact ⟨Int32.not_lt.mp h0, q⟩
def pb_keepS (S : pb_S) (s : Nat) : pb_S := (S.1, S.2.1, S.2.2.1, S.2.2.2.1, S.2.2.2.2.1, (fun i => if i = s then some S.1 else S.2.2.2.2.2.1 i), S.2.2.2.2.2.2)
theorem pb_kb_cases (o : Option pb_Vg) : pb_kb o = 0 ∨ pb_kb o = 1 := by unfold pb_kb; split <;> simp
set_option maxRecDepth 100000 in
theorem op_keep (hA : InvA K S) (hK : K + 1 ≤ 64) (x : Int32) : pOp K S (pX6_keep x) (pX7_keep x) := by
  by_cases h1 : inR x 2 = true
  · obtain ⟨s, hs2, rfl⟩ := inR_of h1 (by omega)
    refine ⟨nI (S.1 2), pb_keepS S s, fun μ hC => ?_, fun μ hM => ?_, ?_⟩
    · obtain ⟨g1, g2, g3, g6, g7⟩ := hC
      have hc : pb_CR (μ.1 (4 + 1)) 0 S.1 := g1
      have hst : pX5_store 4 17 (nI s) μ = some ((), pb_sA μ 17 (va_cpy (μ.1 5) (μ.1 17) 0 (s * 52) 52)) := by
        unfold pX5_store
        rw [show pb_ln 17 = 104 from rfl]
        simp (disch := omega) only [lz, q_mul, q_cp, q_cl, if_true]
      have e0 : (pb_sA μ 17 (va_cpy (μ.1 5) (μ.1 17) 0 (s * 52) 52)).1 0 = μ.1 0 := pb_sA_ne (by decide)
      have hc2 : pb_CR ((pb_sA (pb_sA μ 17 (va_cpy (μ.1 5) (μ.1 17) 0 (s * 52) 52)) 0 (upd (μ.1 0) 9 (μ.1 0 9 ||| (nI 1 <<< (nI s &&& nI 31))))).1 (4 + 1)) 0 S.1 := by
        rw [pb_sA_ne (by decide), pb_sA_ne (by decide)]; exact g1
      refine ⟨pb_sA (pb_sA μ 17 (va_cpy (μ.1 5) (μ.1 17) 0 (s * 52) 52)) 0 (upd (μ.1 0) 9 (μ.1 0 9 ||| (nI 1 <<< (nI s &&& nI 31)))), ?_, ⟨?_, ?_, ?_, ⟨?_, fun i hi v hv => ?_⟩, g7⟩, (frC.sA (by omega)).tr (frC.sA (by omega))⟩
      · simp (disch := omega) only [pX6_keep, lz, q_lt, show ¬ s < 0 by omega, if_false, hs2, if_true, hst, pb_b_some, e0, c_day hc2]
      · rw [pb_sA_ne (by decide), pb_sA_ne (by decide)]; exact g1
      · rw [pb_sA_ne (by decide), pb_sA_ne (by decide), pb_sA_ne (by decide), pb_sA_ne (by decide)]; exact g2
      · rw [pb_sA_ne (by decide), pb_sA_ne (by decide), pb_sA_ne (by decide), pb_sA_ne (by decide)]; exact g3
      · rw [pb_sA_eq, upd_eq, g6.1, q_bit (by omega), q_or]
        congr 1
        show _ = pb_kb (if 0 = s then some S.1 else S.2.2.2.2.2.1 0) + 2 * pb_kb (if 1 = s then some S.1 else S.2.2.2.2.2.1 1)
        have k0 : pb_kb (some S.1) = 1 := rfl
        rcases (show s = 0 ∨ s = 1 by omega) with rfl | rfl
        · rw [if_pos rfl, if_neg (by decide), k0]
          rcases pb_kb_cases (S.2.2.2.2.2.1 0) with e | e <;> rcases pb_kb_cases (S.2.2.2.2.2.1 1) with e' | e' <;> rw [e, e'] <;> rfl
        · rw [if_neg (by decide), if_pos rfl, k0]
          rcases pb_kb_cases (S.2.2.2.2.2.1 0) with e | e <;> rcases pb_kb_cases (S.2.2.2.2.2.1 1) with e' | e' <;> rw [e, e'] <;> rfl
      · rw [pb_sA_ne (by decide), pb_sA_eq]
        have hv' : (if i = s then some S.1 else S.2.2.2.2.2.1 i) = some v := hv
        by_cases e : i = s
        · rw [if_pos e] at hv'
          cases hv'
          rw [e, Nat.mul_comm 52 s]
          exact CR_cpy g1
        · rw [if_neg e] at hv'
          exact CR_cpy_ne (g6.2 i hi v hv') (by omega)
    · have hM1 := hM
      obtain ⟨g1, g2, g3, g6, g7⟩ := hM
      obtain ⟨r, k1, k2, k3⟩ := lp_copy (fun n b r => pX7_keep_L21 (nI s) n (nI b) (pb_sA (pb_sA μ 28 (upd (μ.1 28) s (nI 1))) 29 r)) (fun r => some (nI (S.1 2), pb_sA (pb_sA μ 28 (upd (μ.1 28) s (nI 1))) 29 r)) (fun k => μ.1 21 k) (45 * s) 45 (μ.1 29) (fun n r _ => by
        have e21 : (pb_sA (pb_sA μ 28 (upd (μ.1 28) s (nI 1))) 29 r).1 21 = μ.1 21 := by rw [pb_sA_ne (by decide), pb_sA_ne (by decide)]
        simp (disch := omega) only [pX7_keep_L21, lz, q_add, q_in, q_cl, q_eq, q_lt, q_le, q_9, q_b10, q_b01, Nat.one_ne_zero, eq_self, if_true, if_false, pb_b_some, Nat.le_refl, e21, m0_day g1]) (fun n b r hb _ => by
        have e21 : (pb_sA (pb_sA μ 28 (upd (μ.1 28) s (nI 1))) 29 r).1 21 = μ.1 21 := by rw [pb_sA_ne (by decide), pb_sA_ne (by decide)]
        simp (disch := omega) only [pX7_keep_L21, e21, q_mul, lz, q_add, q_in, q_cl, q_eq, q_lt, q_le, q_9, q_b10, q_b01, Nat.one_ne_zero, eq_self, if_true, if_false, pb_b_some, pb_sA_sA, pb_sA_eq]
        rw [if_neg (by omega)]) pb_F (pb_Fgt (by omega))
      have e29 : (pb_sA μ 28 (upd (μ.1 28) s (nI 1))).1 29 = μ.1 29 := pb_sA_ne (by decide)
      rw [← e29, pb_sA_self] at k1
      refine ⟨pb_sA (pb_sA μ 28 (upd (μ.1 28) s (nI 1))) 29 r, ?_, ⟨?_, ?_, ?_, fun i hi => ⟨?_, fun v hv => ?_⟩, g7⟩, (frM.sA (by omega)).tr (frM.sA (by omega))⟩
      · simp (disch := omega) only [pX7_keep, m_in, in01, if_pos h1, lz, q_add, q_in, q_cl, q_eq, q_lt, q_le, q_9, q_b10, q_b01, Nat.one_ne_zero, eq_self, if_true, if_false, pb_b_some]
        exact k1
      · refine ⟨?_, ?_, ?_, ?_⟩
        · rw [pb_sA_ne (by decide), pb_sA_ne (by decide)]; exact g1.1
        · rw [pb_sA_ne (by decide), pb_sA_ne (by decide)]; exact g1.2.1
        · rw [pb_sA_ne (by decide), pb_sA_ne (by decide)]; exact g1.2.2.1
        · rw [pb_sA_ne (by decide), pb_sA_ne (by decide)]; exact g1.2.2.2
      · rw [pb_sA_ne (by decide), pb_sA_ne (by decide), pb_sA_ne (by decide), pb_sA_ne (by decide)]; exact g2
      · rw [pb_sA_ne (by decide), pb_sA_ne (by decide), pb_sA_ne (by decide), pb_sA_ne (by decide)]; exact g3
      · rw [pb_sA_ne (by decide), pb_sA_eq]
        show _ = nI (pb_kb (if i = s then some S.1 else S.2.2.2.2.2.1 i))
        by_cases e : i = s
        · rw [if_pos e, e, upd_eq]; rfl
        · rw [if_neg e, upd_ne e]; exact (g6 i hi).1
      · rw [pb_sA_eq]
        have hv' : (if i = s then some S.1 else S.2.2.2.2.2.1 i) = some v := hv
        by_cases e : i = s
        · rw [if_pos e] at hv'
          cases hv'
          rw [e]
          exact MR_of g1.1 (fun k hk => by rw [k2 k hk, Nat.mul_zero, Nat.zero_add])
        · rw [if_neg e] at hv'
          exact MR_of ((g6 i hi).2 v hv') (fun k hk => k3 _ (by omega))
    · have h := hA.mono hK
      refine ⟨h.1, h.2.1, h.2.2.1, fun i hi v hv => ?_⟩
      have hv' : (if i = s then some S.1 else S.2.2.2.2.2.1 i) = some v := hv
      by_cases e : i = s
      · rw [if_pos e] at hv'
        cases hv'
        exact ⟨h.1.1, vSame.rf⟩
      · rw [if_neg e] at hv'
        exact h.2.2.2 i hi v hv'
  · refine pOp.read hA hK (-1) (pC.same fun μ hC => ?_) (pM.same fun μ hM => ?_)
    · unfold pX6_keep
      rcases out2 h1 with hx | ⟨hx1, hx2⟩
      · rw [if_pos hx]
      · rw [if_neg hx1, if_neg hx2]
    · simp (disch := omega) only [pX7_keep, m_in, in01, if_neg h1, lz, q_add, q_in, q_cl, q_eq, q_lt, q_le, q_9, q_b10, q_b01, Nat.one_ne_zero, eq_self, if_true, if_false, pb_b_some]
end OPS
