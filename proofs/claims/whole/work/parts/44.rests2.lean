section RESTS2
variable {K : Nat} {S : pb_S} {μ : pb_M} {a : pb_Vg} {M : Nat}
theorem c_setW (hc : pb_CR (μ.1 5) 0 a) (hB : vB a ≤ 5) (Kc : pb_M → Option (Unit × pb_M)) : ∃ h', pX1_settle_L40 4 Kc pb_F (nI 0) μ = Kc (pb_sA μ 16 h') ∧ ∀ b, b < vB a → h' b = nI (a (32 + b)) := by
  have h := lp_copy (fun n b r => pX1_settle_L40 4 Kc n (nI b) (pb_sA μ 16 r)) (fun r => Kc (pb_sA μ 16 r)) (fun b => nI (a (32 + b))) 0 (vB a) (μ.1 16) (fun n r _ => by
    have hc' : pb_CR ((pb_sA μ 16 r).1 (4 + 1)) 0 a := by rw [pb_sA_ne (by decide)]; exact hc
    rw [pX1_settle_L40, c_beasts hc', pb_b_some, if_pos ((nI_leI (by omega) (by omega)).mpr (Nat.le_refl _))]) (fun n b r hb _ => by
    have hc' : pb_CR ((pb_sA μ 16 r).1 (4 + 1)) 0 a := by rw [pb_sA_ne (by decide)]; exact hc
    rw [pX1_settle_L40, c_beasts hc', pb_b_some, if_neg (fun z => (show ¬ vB a ≤ b by omega) ((nI_leI (by omega) (by omega)).mp z)), c_wor hc' (by omega), pb_b_some, if_pos (q_in (by omega) (by omega)), q_cl (by omega), pb_sA_sA, pb_sA_eq, show nI b + (1 : Int32) = nI (b + 1) from nI_add b 1, Nat.zero_add]) pb_F (pb_Fgt (by omega))
  obtain ⟨r, g1, g2, -⟩ := h
  simp only [pb_sA_self] at g1
  exact ⟨r, g1, fun b hb => by have := g2 b hb; rwa [Nat.zero_add] at this⟩
def rsT (a : pb_Vg) (o c : Nat) : Nat × Int32 := pb_it (rsF a o c (vDebt a o c)) 24 0 (0, -9)
theorem rsT_eq (a : pb_Vg) (o c : Nat) : pb_it (rsF a o c (vDebt a o c)) (6 * (min 3 (vDebt a o c) + 1)) 0 (0, -9) = rsT a o c := by
  unfold rsT
  have h : 24 = 6 * (min 3 (vDebt a o c) + 1) + (24 - 6 * (min 3 (vDebt a o c) + 1)) := by omega
  generalize hX : min 3 (vDebt a o c) = X at *
  rw [h, pb_it_add]
  symm
  apply pb_it_idle
  intro e s h1 h2
  unfold rsF rsR
  rw [hX, if_neg]
  simp
  intro h3
  omega
theorem c_settle {o c : Nat} (hc : pb_CR (μ.1 5) 0 a) (hz : vOk M a) (hM2 : M ≤ 900000) (ho : o < vP a) (hcr : c < vP a) : ∃ μ1, pX1_settle 4 (nI o) (nI c) μ = some ((), μ1) ∧ μ1.1 15 4 = nI (rsT a o c).1 ∧ μ1.1 15 5 = (rsT a o c).2 ∧ agC μ μ1 ∧ frC μ μ1 := by
  have hP := hz.1.1
  have hB := hz.1.2
  have hs := hz.s (by omega)
  have hD := (hz.2.2.1 o c (by omega) (by omega)).1
  have hob : ∀ b, b < vB a → a (27 + b) < 4 := fun b hb => by have := (hz.2.1 b hb).1; omega
  have hc4 : pb_CR (μ.1 (4 + 1)) 0 a := hc
  unfold pX1_settle
  rw [c_debt hc4 (by omega) (by omega), pb_b_some, pb_sA_sA, pb_sA_eq, upd_eq]
  have em : (if nI (vDebt a o c) < (3 : Int32) then nI (vDebt a o c) else (3 : Int32)) = nI (min 3 (vDebt a o c)) := by
    by_cases e : vDebt a o c < 3
    · rw [if_pos (show nI (vDebt a o c) < (3 : Int32) from (nI_ltI (b := 3) (by omega) (by omega)).mpr e), Nat.min_eq_right (by omega)]
    · rw [if_neg (show ¬ nI (vDebt a o c) < (3 : Int32) from fun z => e ((nI_ltI (b := 3) (by omega) (by omega)).mp z)), Nat.min_eq_left (by omega)]
      rfl
  rw [em]
  have hc1 : ∀ g, pb_CR ((pb_sA μ 15 g).1 (4 + 1)) 0 a := fun g => by rw [pb_sA_ne (by decide)]; exact hc
  have ht : ∀ g, pX5_takableBy 4 (nI c) (pb_sA μ 15 g) = some (nI (vTak a c), pb_sA μ 15 g) := fun g => c_tak (hc1 g) hs hB hob (by omega)
  rw [ht, pb_b_some, c_beastsOf (hc1 _) hs hB (by omega), pb_b_some, q_and, pb_sA_sA, pb_sA_eq]
  generalize hg : upd (upd (upd (μ.1 15) 1 (nI (vDebt a o c))) 2 (nI (min 3 (vDebt a o c)))) 3 (nI (vTak a c &&& pb_bits (fun b => a (27 + b) == o) (vB a))) = g
  have e1 : g 1 = nI (vDebt a o c) := by rw [← hg, upd_ne (by decide), upd_ne (by decide), upd_eq]
  have e2 : g 2 = nI (min 3 (vDebt a o c)) := by rw [← hg, upd_ne (by decide), upd_eq]
  have e3 : g 3 = nI (vTak a c &&& pb_bits (fun b => a (27 + b) == o) (vB a)) := by rw [← hg, upd_eq]
  obtain ⟨h', j1, j2⟩ := c_setW (μ := pb_sA μ 15 g) (hc1 g) hB (fun μk68 => pX1_settle_L82 4 pb_F (0 : Int32) (pb_sA (pb_sA μk68 15 (upd (μk68.1 15) 4 (0 : Int32))) 15 (upd ((pb_sA μk68 15 (upd (μk68.1 15) 4 (0 : Int32))).1 15) 5 (-9 : Int32))))
  obtain ⟨g', k1, k2, k3⟩ := c_setO (μ := pb_sA (pb_sA μ 15 g) 16 h') (o := o) (c0 := c) (h1 := 4) hB hs hD (min 3 (vDebt a o c) + 1) 0 pb_F (upd (upd g 4 (0 : Int32)) 5 (-9 : Int32)) (0, -9) (by omega) (pb_Fgt (by omega)) (by show 0 < _; omega) (by
    refine ⟨⟨?_, ?_, ?_⟩, fun b hb => ?_⟩
    · rw [pb_sA_eq, upd_ne (by decide), upd_ne (by decide)]; exact e1
    · rw [pb_sA_eq, upd_ne (by decide), upd_ne (by decide)]; exact e2
    · rw [pb_sA_eq, upd_ne (by decide), upd_ne (by decide)]; exact e3
    · rw [pb_sA_ne (by decide), pb_sA_eq]
      exact j2 b hb) (by rw [upd_ne (by decide), upd_eq]; rfl) (by rw [upd_eq])
  rw [Nat.mul_zero, rsT_eq] at k2 k3
  refine ⟨pb_sA (pb_sA (pb_sA μ 15 g) 16 h') 15 g', ?_, ?_, ?_, ?_, ?_⟩
  · exact j1.trans (by
      show pX1_settle_L82 4 pb_F (0 : Int32) _ = _
      rw [pb_sA_sA, pb_sA_eq, pb_sA_ne (show (15 : Nat) ≠ 16 by decide), pb_sA_eq]
      exact k1)
  · rw [pb_sA_eq]; exact k2
  · rw [pb_sA_eq]; exact k3
  · exact ((agC.sA (by omega)).tr (agC.sA (by omega))).tr (agC.sA (by omega))
  · exact ((frC.sA (by omega)).tr (frC.sA (by omega))).tr (frC.sA (by omega))
end RESTS2
