/-! what each person may take, laid side by side; suspects -/
section SUSP
variable {K : Nat} {S : pb_S}
def pb_LK (μ : pb_M) (a : pb_Vg) : Prop := μ.1 10 1 = nI (vP a) ∧ ∀ p, p < vP a → μ.1 11 p = nI (vTak a p)
theorem c_look {μ : pb_M} {a : pb_Vg} (hc : pb_CR (μ.1 5) 0 a) (hs : vS a) (hP : vP a ≤ 4) (hB : vB a ≤ 5) (ho : ∀ b, b < vB a → a (27 + b) < 4) : ∃ μ1, pX2_look 4 μ = some ((), μ1) ∧ pb_LK μ1 a ∧ μ1.1 5 = μ.1 5 ∧ agC μ μ1 ∧ frC μ μ1 := by
  have hc4 : pb_CR (μ.1 (4 + 1)) 0 a := hc
  have em : (if nI (vP a) < (4 : Int32) then nI (vP a) else (4 : Int32)) = nI (vP a) := by
    by_cases e : vP a < 4
    · rw [if_pos (show nI (vP a) < (4 : Int32) from (nI_ltI (b := 4) (by omega) (by omega)).mpr e)]
    · rw [if_neg (show ¬ nI (vP a) < (4 : Int32) from fun z => e ((nI_ltI (b := 4) (by omega) (by omega)).mp z)), show vP a = 4 by omega]
      rfl
  have h := lp_copy (fun n b r => pX2_look_L14 4 n (nI b) (pb_sA (pb_sA μ 10 (upd (μ.1 10) 1 (nI (vP a)))) 11 r)) (fun r => some ((), pb_sA (pb_sA μ 10 (upd (μ.1 10) 1 (nI (vP a)))) 11 r)) (fun p => nI (vTak a p)) 0 (vP a) (μ.1 11) (fun n r _ => by
    have e10 : (pb_sA (pb_sA μ 10 (upd (μ.1 10) 1 (nI (vP a)))) 11 r).1 10 1 = nI (vP a) := by rw [pb_sA_ne (by decide), pb_sA_eq, upd_eq]
    rw [pX2_look_L14, e10, if_pos ((nI_leI (by omega) (by omega)).mpr (Nat.le_refl _))]) (fun n b r hb _ => by
    have e10 : (pb_sA (pb_sA μ 10 (upd (μ.1 10) 1 (nI (vP a)))) 11 r).1 10 1 = nI (vP a) := by rw [pb_sA_ne (by decide), pb_sA_eq, upd_eq]
    have hc5 : pb_CR ((pb_sA (pb_sA μ 10 (upd (μ.1 10) 1 (nI (vP a)))) 11 r).1 (4 + 1)) 0 a := by rw [pb_sA_ne (by decide), pb_sA_ne (by decide)]; exact hc
    have ht : pX5_takableBy 4 (nI b) (pb_sA (pb_sA μ 10 (upd (μ.1 10) 1 (nI (vP a)))) 11 r) = some (nI (vTak a b), pb_sA (pb_sA μ 10 (upd (μ.1 10) 1 (nI (vP a)))) 11 r) := c_tak hc5 hs hB ho (by omega)
    rw [pX2_look_L14, e10, if_neg (fun z => (show ¬ vP a ≤ b by omega) ((nI_leI (by omega) (by omega)).mp z)), ht, pb_b_some, if_pos (q_in (by omega) (by omega)), q_cl (by omega), pb_sA_sA, pb_sA_eq, show nI b + (1 : Int32) = nI (b + 1) from nI_add b 1, Nat.zero_add]) pb_F (pb_Fgt (by omega))
  obtain ⟨r, g1, g2, -⟩ := h
  have e11 : pb_sA (pb_sA μ 10 (upd (μ.1 10) 1 (nI (vP a)))) 11 (μ.1 11) = pb_sA μ 10 (upd (μ.1 10) 1 (nI (vP a))) := by
    have := pb_sA_self (μ := pb_sA μ 10 (upd (μ.1 10) 1 (nI (vP a)))) (h := 11)
    rwa [pb_sA_ne (by decide)] at this
  refine ⟨pb_sA (pb_sA μ 10 (upd (μ.1 10) 1 (nI (vP a)))) 11 r, ?_, ⟨?_, fun p hp => ?_⟩, ?_, (agC.sA (by omega)).tr (agC.sA (by omega)), (frC.sA (by omega)).tr (frC.sA (by omega))⟩
  · unfold pX2_look
    rw [c_people hc4, pb_b_some, em]
    simp only [e11] at g1
    exact g1
  · rw [pb_sA_ne (by decide), pb_sA_eq, upd_eq]
  · rw [pb_sA_eq]
    have := g2 p hp
    rwa [Nat.zero_add] at this
  · rw [pb_sA_ne (by decide), pb_sA_ne (by decide)]
end SUSP
