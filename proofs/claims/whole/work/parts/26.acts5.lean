section OPS
variable {K : Nat} {S : pb_S}
def pb_againS (S : pb_S) (v : pb_Vg) : pb_S := (v, S.2.1, S.2.2.1, 0, S.2.2.2.2.1, S.2.2.2.2.2)
theorem kept_bit {o0 o1 : Option pb_Vg} {s : Nat} (hs : s < 2) : (pb_kb o0 + 2 * pb_kb o1).testBit s = ((if s = 0 then o0 else o1).isSome) := by
  have t0 : ∀ x y : Bool, ((if x = true then 1 else 0) + 2 * (if y = true then 1 else 0) : Nat).testBit 0 = x := by decide
  have t1 : ∀ x y : Bool, ((if x = true then 1 else 0) + 2 * (if y = true then 1 else 0) : Nat).testBit 1 = y := by decide
  unfold pb_kb
  rcases (show s = 0 ∨ s = 1 by omega) with rfl | rfl
  · rw [t0, if_pos rfl]
  · rw [t1, if_neg (by decide)]
set_option maxRecDepth 100000 in
theorem op_again (hA : InvA K S) (hK : K + 1 ≤ 64) (x : Int32) : pOp K S (pX6_again x) (pX7_again x) := by
  by_cases h1 : inR x 2 = true
  · obtain ⟨s, hs2, rfl⟩ := inR_of h1 (by omega)
    have hkb0 := pb_kb_cases (S.2.2.2.2.2.1 0)
    have hkb1 := pb_kb_cases (S.2.2.2.2.2.1 1)
    have hif : (if s = 0 then S.2.2.2.2.2.1 0 else S.2.2.2.2.2.1 1) = S.2.2.2.2.2.1 s := by
      rcases (show s = 0 ∨ s = 1 by omega) with rfl | rfl <;> rfl
    cases hk : S.2.2.2.2.2.1 s with
    | none =>
      refine pOp.read hA hK (-3) (pC.same fun μ hC => ?_) (pM.same fun μ hM => ?_)
      · simp (disch := omega) only [pX6_again, pX6_has, hC.2.2.2.1.1, q_tb, lz, q_add, q_in, q_cl, q_eq, q_lt, q_le, q_9, q_b10, q_b01, Nat.one_ne_zero, eq_self, if_true, if_false, pb_b_some, show ¬ s < 0 by omega, hs2, kept_bit hs2, hif, hk, Option.isSome_none, Bool.false_eq_true]
      · have e28 : μ.1 28 s = nI 0 := by rw [(hM.2.2.2.1 s hs2).1, hk]; rfl
        simp (disch := omega) only [pX7_again, m_in, in01, if_pos h1, lz, q_add, q_in, q_cl, q_eq, q_lt, q_le, q_9, q_b10, q_b01, Nat.one_ne_zero, eq_self, if_true, if_false, pb_b_some, e28]
    | some v =>
      obtain ⟨hv1, hv2⟩ := hA.2.2.2 s hs2 v hk
      refine ⟨nI (v 2), pb_againS S v, fun μ hC => ?_, fun μ hM => ?_, ?_⟩
      · obtain ⟨g1, g2, g3, g6, g7⟩ := hC
        have hft : ∀ ν : pb_M, pX5_fetch 4 17 (nI s) ν = some ((), pb_sA ν 5 (va_cpy (ν.1 17) (ν.1 5) (s * 52) 0 52)) := fun ν => by
          unfold pX5_fetch
          rw [show pb_ln 17 = 104 from rfl]
          simp (disch := omega) only [lz, q_mul, q_cp, q_cl, if_true]
        have hcr : pb_CR (va_cpy (μ.1 17) (μ.1 5) (s * 52) 0 52) 0 v := by
          have := CR_cpy (g := μ.1 5) (d := 0) (g6.2 s hs2 v hk)
          rwa [Nat.mul_comm 52 s] at this
        have e8 : (pb_sA μ 5 (va_cpy (μ.1 17) (μ.1 5) (s * 52) 0 52)).1 8 = μ.1 8 := pb_sA_ne (by decide)
        have hc2 : pb_CR ((pb_sA (pb_sA μ 5 (va_cpy (μ.1 17) (μ.1 5) (s * 52) 0 52)) 8 (upd (upd (μ.1 8) 1 (nI 0)) 2 (nI 0))).1 (4 + 1)) 0 v := by
          rw [pb_sA_ne (by decide)]
          show pb_CR ((pb_sA μ 5 _).1 5) 0 v
          rw [pb_sA_eq]; exact hcr
        refine ⟨pb_sA (pb_sA μ 5 (va_cpy (μ.1 17) (μ.1 5) (s * 52) 0 52)) 8 (upd (upd (μ.1 8) 1 (nI 0)) 2 (nI 0)), ?_, ⟨?_, ?_, ⟨0, by omega, ?_, ?_, fun j hj => absurd hj (Nat.not_lt_zero j)⟩, ?_, g7⟩, (frC.sA (by omega)).tr (frC.sA (by omega))⟩
        · simp (disch := omega) only [pX6_again, pX6_has, pX0_clear, g6.1, q_tb, lz, q_add, q_in, q_cl, q_eq, q_lt, q_le, q_9, q_b10, q_b01, Nat.one_ne_zero, eq_self, if_true, if_false, pb_b_some, show ¬ s < 0 by omega, hs2, kept_bit hs2, hif, hk, Option.isSome_some, hft, e8, pb_sA_sA, pb_sA_eq, c_day hc2]
        · exact hc2
        · rw [pb_sA_ne (by decide), pb_sA_ne (by decide), pb_sA_ne (by decide), pb_sA_ne (by decide)]; exact g2
        · rw [pb_sA_eq, upd_ne (by decide), upd_eq]; rfl
        · rw [pb_sA_eq, upd_eq]
        · rw [pb_sA_ne (by decide), pb_sA_ne (by decide), pb_sA_ne (by decide), pb_sA_ne (by decide)]; exact g6
      · obtain ⟨g1, g2, ⟨c, hc, g3, g4, -⟩, g6, g7⟩ := hM
        have e28 : μ.1 28 s = nI 1 := by rw [(g6 s hs2).1, hk]; rfl
        have hmr := (g6 s hs2).2 v hk
        have hd : μ.1 29 (45 * s + 44) = nI (v 2) := hmr.day
        obtain ⟨r, k1, k2, k3⟩ := lp_copy (fun n b r => pX7_again_L26 (nI s) n (nI b) (pb_sA μ 21 r)) (fun r => some (r 44, pb_sA (pb_sA μ 21 r) 19 (upd (μ.1 19) 12 (nI 0)))) (fun k => μ.1 29 (45 * s + k)) 0 45 (μ.1 21) (fun n r _ => by
          have e19 : (pb_sA μ 21 r).1 19 = μ.1 19 := pb_sA_ne (by decide)
          have e21 : (pb_sA (pb_sA μ 21 r) 19 (upd (μ.1 19) 12 (nI 0))).1 21 = r := by rw [pb_sA_ne (by decide), pb_sA_eq]
          simp (disch := omega) only [pX7_again_L26, lz, q_add, q_in, q_cl, q_eq, q_lt, q_le, q_9, q_b10, q_b01, Nat.one_ne_zero, eq_self, if_true, if_false, pb_b_some, Nat.le_refl, e19, e21]) (fun n b r hb _ => by
          have e29 : (pb_sA μ 21 r).1 29 = μ.1 29 := pb_sA_ne (by decide)
          simp (disch := omega) only [pX7_again_L26, e29, q_mul, lz, q_add, q_in, q_cl, q_eq, q_lt, q_le, q_9, q_b10, q_b01, Nat.one_ne_zero, eq_self, if_true, if_false, pb_b_some, pb_sA_sA, pb_sA_eq, Nat.zero_add]
          rw [if_neg (by omega)]) pb_F (pb_Fgt (by omega))
        rw [pb_sA_self] at k1
        have h44 : r 44 = nI (v 2) := by have := k2 44 (by omega); rw [Nat.zero_add] at this; rw [this, hd]
        have hrr : pb_MR r (45 * 0) v := MR_of hmr (fun k hk => by rw [Nat.mul_zero, k2 k hk])
        have hmm := pb_MM.with (lv := 0) g1 hrr hv2.1 hv2.2.1 hv2.2.2
        have f0 : ∀ k, k ≠ 12 → (pb_sA (pb_sA μ 21 r) 19 (upd (μ.1 19) 12 (nI 0))).1 19 k = μ.1 19 k := fun k k1 => by rw [pb_sA_eq, upd_ne k1]
        have e19 : (pb_sA μ 21 r).1 19 = μ.1 19 := pb_sA_ne (by decide)
        refine ⟨pb_sA (pb_sA μ 21 r) 19 (upd (μ.1 19) 12 (nI 0)), ?_, ⟨⟨?_, ?_, ?_, ?_⟩, ⟨?_, ?_⟩, ⟨c, hc, ?_, ?_, fun j hj => absurd hj (Nat.not_lt_zero j)⟩, ?_, g7⟩, (frM.sA (by omega)).tr (frM.sA (by omega))⟩
        · simp (disch := omega) only [pX7_again, m_in, in01, if_pos h1, lz, q_add, q_in, q_cl, q_eq, q_lt, q_le, q_9, q_b10, q_b01, Nat.one_ne_zero, eq_self, if_true, if_false, pb_b_some, e28]
          rw [k1, h44]
        · rw [pb_sA_ne (by decide)]; exact hmm.1
        · rw [pb_sA_ne (by decide)]; exact hmm.2.1
        · rw [f0 0 (by decide), ← e19]; exact hmm.2.2.1
        · rw [f0 1 (by decide), ← e19]; exact hmm.2.2.2
        · rw [f0 9 (by decide)]; exact g2.1
        · rw [pb_sA_ne (by decide), pb_sA_ne (by decide)]; exact g2.2
        · rw [pb_sA_eq, upd_eq]; rfl
        · rw [f0 13 (by decide)]; exact g4
        · rw [pb_sA_ne (by decide), pb_sA_ne (by decide), pb_sA_ne (by decide), pb_sA_ne (by decide)]; exact g6
      · have h := hA.mono hK
        obtain ⟨⟨h1, h1'⟩, h2, -, h5⟩ := h
        exact ⟨⟨hv1.mono (by omega), h1'⟩, h2, ⟨Nat.zero_le _, fun j hj => absurd hj (Nat.not_lt_zero j)⟩, fun i hi w hw => ⟨(h5 i hi w hw).1, (h5 i hi w hw).2.to hv2⟩⟩
  · refine pOp.read hA hK (-1) (pC.same fun μ hC => ?_) (pM.same fun μ hM => ?_)
    · unfold pX6_again
      rcases out2 h1 with hx | ⟨hx1, hx2⟩
      · rw [if_pos hx]
      · rw [if_neg hx1, if_neg hx2]
    · simp (disch := omega) only [pX7_again, m_in, in01, if_neg h1, lz, q_add, q_in, q_cl, q_eq, q_lt, q_le, q_9, q_b10, q_b01, Nat.one_ne_zero, eq_self, if_true, if_false, pb_b_some]
end OPS
