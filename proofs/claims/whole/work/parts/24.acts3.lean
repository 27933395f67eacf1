theorem ite_some {α : Type} {c : Prop} [Decidable c] {x y : α} {μ : pb_M} : some ((if c then x else y), μ) = if c then some (x, μ) else some (y, μ) := by split <;> rfl
theorem vAll_eq {M : Nat} {a : pb_Vg} (h : vOk M a) : pb_sum (fun k => a (11 + k)) 16 = vAll a := by
  have hP := h.1.1
  have z : ∀ i j, i < 4 → j < 4 → (vP a ≤ i ∨ vP a ≤ j ∨ i = j) → a (11 + 4 * i + j) = 0 := fun i j hi hj q => (h.2.2.1 i j hi hj).2 q
  have z00 := z 0 0 (by omega) (by omega)
  have z01 := z 0 1 (by omega) (by omega)
  have z02 := z 0 2 (by omega) (by omega)
  have z03 := z 0 3 (by omega) (by omega)
  have z10 := z 1 0 (by omega) (by omega)
  have z11 := z 1 1 (by omega) (by omega)
  have z12 := z 1 2 (by omega) (by omega)
  have z13 := z 1 3 (by omega) (by omega)
  have z20 := z 2 0 (by omega) (by omega)
  have z21 := z 2 1 (by omega) (by omega)
  have z22 := z 2 2 (by omega) (by omega)
  have z23 := z 2 3 (by omega) (by omega)
  have z30 := z 3 0 (by omega) (by omega)
  have z31 := z 3 1 (by omega) (by omega)
  have z32 := z 3 2 (by omega) (by omega)
  have z33 := z 3 3 (by omega) (by omega)
  unfold vAll vDebt
  generalize vP a = P at *
  rcases (show P = 0 ∨ P = 1 ∨ P = 2 ∨ P = 3 ∨ P = 4 by omega) with rfl | rfl | rfl | rfl | rfl <;> simp [pb_sum] at * <;> omega
section MV
variable {μ : pb_M} {a : pb_Vg} {lv : Nat}
theorem m_allOwed {M : Nat} (hm : pb_MR (μ.1 21) (45 * lv) a) (hl : lv < 2) (hz : vOk M a) : pX7_allOwed (nI lv) μ = some (nI (vAll a), μ) := by
  rw [← vAll_eq hz]
  unfold pX7_allOwed
  have hd : ∀ k, k < 16 → μ.1 21 (45 * lv + 28 + k) = nI (a (11 + k)) := fun k hk => by
    have e := hm.debt (i := k / 4) (j := k % 4) (by omega) (by omega)
    unfold vDebt at e
    rwa [show 45 * lv + 28 + 4 * (k / 4) + k % 4 = 45 * lv + 28 + k by omega, show 11 + 4 * (k / 4) + k % 4 = 11 + k by omega] at e
  exact lp_sum (fun n b s => pX7_allOwed_L4 (nI lv) n (nI s) (nI b) μ) (fun k => a (11 + k)) 16 (fun s => some (nI s, μ)) (fun n s => by
    simp (disch := omega) only [pX7_allOwed_L4, lz, q_add, q_in, q_cl, q_eq, q_lt, q_le, q_9, q_b10, q_b01, Nat.one_ne_zero, eq_self, if_true, if_false, pb_b_some, Nat.le_refl]) (fun n b s hb => by
    simp (disch := omega) only [pX7_allOwed_L4, q_mul, lz, q_add, q_in, q_cl, q_eq, q_lt, q_le, q_9, q_b10, q_b01, Nat.one_ne_zero, eq_self, if_true, if_false, pb_b_some, hd b hb]
    rw [if_neg (by omega)]) pb_F (pb_Fgt (by omega))
end MV
section OPS
variable {K : Nat} {S : pb_S}
theorem op_count (hA : InvA K S) (hK : K + 1 ≤ 64) (y : Int32) : pOp K S (pX6_count y) (pX7_count y) := by
  have hB := hA.1.1.1.2
  have hP := hA.1.1.1.1
  have hs := hA.s
  refine pOp.read hA hK (if y = 0 then nI S.2.1 else if y = 1 then nI (vP S.1) else if y = 2 then nI (vB S.1) else if y = 3 then nI (S.1 2) else if y = 4 then nI (pb_bits (fun b => S.1 (42 + b) != 0) (vB S.1)) else if y = 5 then nI (pb_bits (fun b => S.1 (32 + b) == 0) (vB S.1)) else if y = 6 then nI (vAll S.1) else if y = 7 then nI S.2.2.2.1 else -2) (pC.same fun μ hC => ?_) (pM.same fun μ hM => ?_)
  · have hc : pb_CR (μ.1 (4 + 1)) 0 S.1 := hC.1
    obtain ⟨-, ⟨h2, -⟩, ⟨c, hc', h3, -⟩, -⟩ := hC
    simp only [pX6_count, pX4_length, pX0_size, h2, h3, c_people hc, c_beasts hc, c_day hc, c_shutB hc hs hB, c_deadB hc hs hB, c_owedAll hc hP, pb_b_some]
    repeat' split
    all_goals rfl
  · have hm := hM.1
    obtain ⟨-, ⟨h2, -⟩, ⟨c, hc', h3, -⟩, -⟩ := hM
    have hL : ∀ Kc : Int32 → pb_M → Option (Int32 × pb_M), pX7_count_L4 y Kc pb_F (nI 0) (nI 0) μ = Kc (nI (pb_bits (fun b => S.1 (32 + b) == 0) (vB S.1))) μ := fun Kc => lp_bits (fun n b s => pX7_count_L4 y Kc n (nI s) (nI b) μ) (fun b => S.1 (32 + b) == 0) (vB S.1) (fun s => Kc (nI s) μ) (fun n s => by
      simp (disch := omega) only [pX7_count_L4, hm.2.2.2, q_le, Nat.le_refl, if_true]) (fun n b s hb => by
      have h1 := hs (32 + b) (by omega)
      simp (disch := omega) only [pX7_count_L4, hm.2.2.2, lz, q_add, q_in, q_cl, q_eq, q_lt, q_le, q_9, q_b10, q_b01, Nat.one_ne_zero, eq_self, if_true, if_false, pb_b_some, m0_wor hm (show b < 5 by omega), q_bit, q_or]
      rw [if_neg (by omega)]
      by_cases e : S.1 (32 + b) = 0 <;> simp [e]) pb_F (pb_Fgt (by omega))
    unfold pX7_count
    refine (hL _).trans ?_
    have ea : pX7_allOwed (0 : Int32) μ = some (nI (vAll S.1), μ) := m_allOwed (lv := 0) hm.1 (by omega) hA.1.1
    simp only [h2, h3, hm.2.2.1, hm.2.2.2, m0_day hm, m_shutNow hm hs hB, ea, pb_b_some]
    repeat' split
    all_goals rfl
theorem op_person (hA : InvA K S) (hK : K + 1 ≤ 64) (x y : Int32) : pOp K S (pX6_person x y) (pX7_person x y) := by
  have hB := hA.1.1.1.2
  have hP := hA.1.1.1.1
  have hs := hA.s
  by_cases h1 : inR x (vP S.1) = true
  · obtain ⟨p, hp, rfl⟩ := inR_of h1 (by omega)
    have hp4 : p < 4 := by omega
    refine pOp.read hA hK (if y = 0 then nI (S.1 (3 + p)) else if y = 1 then nI (S.1 (7 + p)) else if y = 2 then nI (pb_bits (fun b => S.1 (27 + b) == p) (vB S.1)) else if y = 3 then nI (pb_sum (fun o => vDebt S.1 p o) (vP S.1)) else if y = 4 then nI (pb_sum (fun o => vDebt S.1 o p) (vP S.1)) else -2) (pC.same fun μ hC => ?_) (pM.same fun μ hM => ?_)
    · have hc : pb_CR (μ.1 (4 + 1)) 0 S.1 := hC.1
      simp (disch := omega) only [pX6_person, c_hasP hc, c_hay hc hp4, c_mon hc hp4, c_beastsOf hc hs hB hp4, c_owedBy hc hP hp4, c_owedTo hc hP hp4, if_pos h1, lz, q_add, q_in, q_cl, q_eq, q_lt, q_le, q_9, q_b10, q_b01, Nat.one_ne_zero, eq_self, if_true, if_false, pb_b_some]
      repeat' split
      all_goals first | rfl | simp_all
    · have hm := hM.1
      have hP64 : ∀ (Kc : Int32 → Int32 → pb_M → Option (Int32 × pb_M)) (v2 v3 : Int32), pX7_person_L64 (nI p) v2 v3 Kc pb_F (nI 0) (nI 0) (nI 0) μ = Kc (nI (pb_sum (fun o => vDebt S.1 p o) (vP S.1))) (nI (pb_sum (fun o => vDebt S.1 o p) (vP S.1))) μ := fun Kc v2 v3 => by
        have := (lp_it (fun n b (s : Nat × Nat) => pX7_person_L64 (nI p) v2 v3 Kc n (nI s.1) (nI s.2) (nI b) μ) (fun b s => (s.1 + vDebt S.1 p b, s.2 + vDebt S.1 b p)) (fun b s => s = (pb_sum (fun o => vDebt S.1 p o) b, pb_sum (fun o => vDebt S.1 o p) b)) (vP S.1) (fun s => Kc (nI s.1) (nI s.2) μ) (fun n s _ => by
          simp (disch := omega) only [pX7_person_L64, hm.2.2.1, lz, q_add, q_in, q_cl, q_eq, q_lt, q_le, q_9, q_b10, q_b01, Nat.one_ne_zero, eq_self, if_true, if_false, pb_b_some, Nat.le_refl]) (fun n b s hb hI => by
          refine ⟨?_, by rw [hI]; rfl⟩
          simp (disch := omega) only [pX7_person_L64, hm.2.2.1, lz, q_add, q_in, q_cl, q_eq, q_lt, q_le, q_9, q_b10, q_b01, Nat.one_ne_zero, eq_self, if_true, if_false, pb_b_some, m_debt, m0_debt hm hp4 (show b < 4 by omega), m0_debt hm (show b < 4 by omega) hp4]
          rw [if_neg (by omega)]) (vP S.1) 0 pb_F (0, 0) (by omega) (pb_Fgt (by omega)) rfl)
        rw [this.1, this.2]
      have hL : ∀ Kc : Int32 → pb_M → Option (Int32 × pb_M), pX7_person_L21 (nI p) y 0 0 Kc pb_F (nI 0) (nI 0) μ = Kc (nI (pb_bits (fun b => S.1 (27 + b) == p) (vB S.1))) μ := fun Kc => lp_bits (fun n b s => pX7_person_L21 (nI p) y 0 0 Kc n (nI s) (nI b) μ) (fun b => S.1 (27 + b) == p) (vB S.1) (fun s => Kc (nI s) μ) (fun n s => by
        simp (disch := omega) only [pX7_person_L21, hm.2.2.2, q_le, Nat.le_refl, if_true]) (fun n b s hb => by
        have h1 := hs (27 + b) (by omega)
        simp (disch := omega) only [pX7_person_L21, hm.2.2.2, lz, q_add, q_in, q_cl, q_eq, q_lt, q_le, q_9, q_b10, q_b01, Nat.one_ne_zero, eq_self, if_true, if_false, pb_b_some, m0_own hm (show b < 5 by omega), q_bit, q_or]
        rw [if_neg (by omega)]
        by_cases e : S.1 (27 + b) = p <;> simp [e]) pb_F (pb_Fgt (by omega))
      unfold pX7_person
      rw [m_isP hm.2.2.1 hP, if_pos h1, pb_b_some, if_neg (by decide)]
      refine (hL _).trans ?_
      refine (hP64 _ _ _).trans ?_
      simp (disch := omega) only [lz, q_add, q_in, q_cl, q_eq, q_lt, q_le, q_9, q_b10, q_b01, Nat.one_ne_zero, eq_self, if_true, if_false, pb_b_some, m0_hay hm hp4, m0_mon hm hp4]
      by_cases y0 : y = nI 0
      · rw [if_pos y0, if_pos y0]
      rw [if_neg y0, if_neg y0]
      by_cases y1 : y = nI 1
      · rw [if_pos y1, if_pos y1]
      rw [if_neg y1, if_neg y1]
      by_cases y2 : y = nI 2
      · rw [if_pos y2, if_pos y2]
      rw [if_neg y2, if_neg y2]
      by_cases y3 : y = nI 3
      · rw [if_pos y3, if_pos y3]
      rw [if_neg y3, if_neg y3]
      by_cases y4 : y = nI 4
      · rw [if_pos y4, if_pos y4]
      rw [if_neg y4, if_neg y4]
  · refine pOp.read hA hK (-1) (pC.same fun μ hC => ?_) (pM.same fun μ hM => ?_)
    · have hc : pb_CR (μ.1 (4 + 1)) 0 S.1 := hC.1
      simp (disch := omega) only [pX6_person, c_hasP hc, if_neg h1, lz, q_add, q_in, q_cl, q_eq, q_lt, q_le, q_9, q_b10, q_b01, Nat.one_ne_zero, eq_self, if_true, if_false, pb_b_some]
    · simp (disch := omega) only [pX7_person, m_isP hM.1.2.2.1 hP, if_neg h1, lz, q_add, q_in, q_cl, q_eq, q_lt, q_le, q_9, q_b10, q_b01, Nat.one_ne_zero, eq_self, if_true, if_false, pb_b_some]
theorem op_wipe (hA : InvA K S) (hK : K + 1 ≤ 64) : pOp K S pX6_wipe pX7_wipe := by
  refine ⟨nI S.2.1, (S.1, 0, S.2.2.1, S.2.2.2), fun μ hC => ?_, fun μ hM => ?_, ?_⟩
  · obtain ⟨h1, h2, h3, h6, h7⟩ := hC
    refine ⟨pb_sA μ 1 (upd (μ.1 1) 2 0), ?_, ⟨?_, ⟨?_, fun j hj => absurd hj (Nat.not_lt_zero j)⟩, ?_, ?_, h7⟩, frC.sA (by omega)⟩
    · simp only [pX6_wipe, pX4_length, pX4_clear, pb_b_some, h2.1]
    · rw [pb_sA_ne (by decide)]; exact h1
    · rw [pb_sA_eq, upd_eq]; rfl
    · rw [pb_sA_ne (by decide), pb_sA_ne (by decide)]; exact h3
    · rw [pb_sA_ne (by decide), pb_sA_ne (by decide)]; exact h6
  · obtain ⟨h1, h2, h3, h6, h7⟩ := hM
    refine ⟨pb_sA μ 19 (upd (μ.1 19) 9 0), ?_, ⟨⟨?_, ?_, ?_, ?_⟩, ⟨?_, fun j hj => absurd hj (Nat.not_lt_zero j)⟩, ?_, ?_, h7⟩, frM.sA (by omega)⟩
    · simp only [pX7_wipe, h2.1]
    · rw [pb_sA_ne (by decide)]; exact h1.1
    · rw [pb_sA_ne (by decide)]; exact h1.2.1
    · rw [pb_sA_eq, upd_ne (by decide)]; exact h1.2.2.1
    · rw [pb_sA_eq, upd_ne (by decide)]; exact h1.2.2.2
    · rw [pb_sA_eq, upd_eq]; rfl
    · rw [pb_sA_eq, upd_ne (by decide), upd_ne (by decide), pb_sA_ne (by decide)]; exact h3
    · rw [pb_sA_ne (by decide), pb_sA_ne (by decide)]; exact h6
  · have h := hA.mono hK
    exact ⟨h.1, ⟨Nat.zero_le _, fun j hj => absurd hj (Nat.not_lt_zero j)⟩, h.2.2⟩
theorem in255 {x : Int32} : ((0 : Int64) ≤ x.toInt64 ∧ x.toInt64 ≤ (255 : Int64)) = (inR x 256 = true) := by
  rw [l_0, show (255 : Int64) = (nI 256 - (1 : Int32)).toInt64 from by decide]
  simp only [l_le, le_pred (show 256 < 1000000 by omega)]
  unfold inR
  simp
theorem op_write (hA : InvA K S) (hK : K + 1 ≤ 64) (x : Int32) : pOp K S (pX6_write x) (pX7_write x) := by
  have hn := hA.2.1.1
  by_cases h1 : inR x 256 = true
  · obtain ⟨k, hk, rfl⟩ := inR_of h1 (by omega)
    by_cases h2 : S.2.1 = 56
    · refine pOp.read hA hK (-4) (pC.same fun μ hC => ?_) (pM.same fun μ hM => ?_)
      · simp (disch := omega) only [pX6_write, pX4_append, hC.2.1.1, h2, lz, q_add, q_in, q_cl, q_eq, q_lt, q_le, q_9, q_b10, q_b01, Nat.one_ne_zero, eq_self, if_true, if_false, pb_b_some, show ¬ k < 0 by omega, show k ≤ 255 by omega, Nat.lt_irrefl]
      · simp (disch := omega) only [pX7_write, m_in, in255, if_pos h1, hM.2.1.1, h2, lz, q_add, q_in, q_cl, q_eq, q_lt, q_le, q_9, q_b10, q_b01, Nat.one_ne_zero, eq_self, if_true, if_false, pb_b_some]
    · refine ⟨nI (S.2.1 + 1), (S.1, S.2.1 + 1, (fun j => if j = S.2.1 then k else S.2.2.1 j), S.2.2.2), fun μ hC => ?_, fun μ hM => ?_, ?_⟩
      · obtain ⟨g1, g2, g3, g6, g7⟩ := hC
        have e1 : (pb_sA μ 2 (upd (μ.1 2) S.2.1 (nI k))).1 1 = μ.1 1 := pb_sA_ne (by decide)
        refine ⟨pb_sA (pb_sA μ 2 (upd (μ.1 2) S.2.1 (nI k))) 1 (upd (μ.1 1) 2 (nI (S.2.1 + 1))), ?_, ⟨?_, ⟨?_, fun j hj => ?_⟩, ?_, ?_, g7⟩, (frC.sA (by omega)).tr (frC.sA (by omega))⟩
        · simp (disch := omega) only [pX6_write, pX4_append, pX4_length, g2.1, lz, q_add, q_in, q_cl, q_eq, q_lt, q_le, q_9, q_b10, q_b01, Nat.one_ne_zero, eq_self, if_true, if_false, pb_b_some, show ¬ k < 0 by omega, show k ≤ 255 by omega, show S.2.1 < 56 by omega, e1, pb_sA_eq, upd_eq]
        · rw [pb_sA_ne (by decide), pb_sA_ne (by decide)]; exact g1
        · rw [pb_sA_eq, upd_eq]
        · rw [pb_sA_ne (by decide), pb_sA_eq]
          show upd (μ.1 2) S.2.1 (nI k) j = nI (if j = S.2.1 then k else S.2.2.1 j)
          have hj' : j < S.2.1 + 1 := hj
          by_cases e : j = S.2.1
          · rw [e, upd_eq, if_pos rfl]
          · rw [upd_ne e, if_neg e]; exact g2.2 j (by omega)
        · rw [pb_sA_ne (by decide), pb_sA_ne (by decide), pb_sA_ne (by decide), pb_sA_ne (by decide)]; exact g3
        · rw [pb_sA_ne (by decide), pb_sA_ne (by decide), pb_sA_ne (by decide), pb_sA_ne (by decide)]; exact g6
      · obtain ⟨g1, g2, g3, g6, g7⟩ := hM
        have e1 : (pb_sA μ 24 (upd (μ.1 24) S.2.1 (nI k))).1 19 = μ.1 19 := pb_sA_ne (by decide)
        refine ⟨pb_sA (pb_sA μ 24 (upd (μ.1 24) S.2.1 (nI k))) 19 (upd (μ.1 19) 9 (nI (S.2.1 + 1))), ?_, ⟨⟨?_, ?_, ?_, ?_⟩, ⟨?_, fun j hj => ?_⟩, ?_, ?_, g7⟩, (frM.sA (by omega)).tr (frM.sA (by omega))⟩
        · simp (disch := omega) only [pX7_write, m_in, in255, if_pos h1, g2.1, lz, q_add, q_in, q_cl, q_eq, q_lt, q_le, q_9, q_b10, q_b01, Nat.one_ne_zero, eq_self, if_true, if_false, pb_b_some, h2, e1, pb_sA_eq, upd_eq]
        · rw [pb_sA_ne (by decide), pb_sA_ne (by decide)]; exact g1.1
        · rw [pb_sA_ne (by decide), pb_sA_ne (by decide)]; exact g1.2.1
        · rw [pb_sA_eq, upd_ne (by decide)]; exact g1.2.2.1
        · rw [pb_sA_eq, upd_ne (by decide)]; exact g1.2.2.2
        · rw [pb_sA_eq, upd_eq]
        · rw [pb_sA_ne (by decide), pb_sA_eq]
          show upd (μ.1 24) S.2.1 (nI k) j = nI (if j = S.2.1 then k else S.2.2.1 j)
          have hj' : j < S.2.1 + 1 := hj
          by_cases e : j = S.2.1
          · rw [e, upd_eq, if_pos rfl]
          · rw [upd_ne e, if_neg e]; exact g2.2 j (by omega)
        · rw [pb_sA_eq, upd_ne (by decide), upd_ne (by decide), pb_sA_ne (by decide), pb_sA_ne (by decide)]; exact g3
        · rw [pb_sA_ne (by decide), pb_sA_ne (by decide), pb_sA_ne (by decide), pb_sA_ne (by decide)]; exact g6
      · have h := hA.mono hK
        refine ⟨h.1, ⟨?_, fun j hj => ?_⟩, h.2.2⟩
        · show S.2.1 + 1 ≤ 56
          omega
        · show (if j = S.2.1 then k else S.2.2.1 j) ≤ 255
          have hj' : j < S.2.1 + 1 := hj
          split
          · omega
          · exact hA.2.1.2 j (by omega)
  · have hx : x < 0 ∨ (¬ x < 0 ∧ ¬ x ≤ 255) := by
      by_cases h0 : x < 0
      · exact Or.inl h0
      · refine Or.inr ⟨h0, fun q => h1 ?_⟩
        unfold inR
        simp only [Bool.and_eq_true, decide_eq_true_eq]
        refine ⟨Int32.not_lt.mp h0, ?_⟩
        have := (le_pred (x := x) (n := 256) (by omega))
        rw [← this]
        exact q
    refine pOp.read hA hK (-2) (pC.same fun μ hC => ?_) (pM.same fun μ hM => ?_)
    · unfold pX6_write
      rcases hx with hx | ⟨hx1, hx2⟩
      · rw [if_pos hx]
      · rw [if_neg hx1, if_neg hx2]
    · simp (disch := omega) only [pX7_write, m_in, in255, if_neg h1, lz, q_add, q_in, q_cl, q_eq, q_lt, q_le, q_9, q_b10, q_b01, Nat.one_ne_zero, eq_self, if_true, if_false, pb_b_some]
end OPS
