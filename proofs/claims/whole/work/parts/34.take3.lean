section TAKE3
variable {K : Nat} {S : pb_S}
theorem MM_fr {μ : pb_M} {a : pb_Vg} (hm : pb_MM μ 0 a) {r : Nat → Int32} (hr : pb_Fr (μ.1 21) r 45) : pb_MM (pb_sA μ 21 r) 0 a :=
  hm.with (MR_of hm.1 (fun k hk => hr _ (by omega))) rfl rfl (fun _ _ => rfl)
theorem m_takeJ1 {μ : pb_M} {v1 v2 v3 v4 v5 v6 v7 : Int32} {F : Int32 → Int32 → Int32 → pb_M → Option (Int32 × pb_M)} : pX7_take_J125 v1 v2 v3 F v4 v5 v6 v7 μ = F v6 v7 (v6 + (1 : Int32)) μ := by
  unfold pX7_take_J125 pX7_take_J130
  rw [if_neg (by decide), if_neg (by decide)]
theorem m_takeJ0 {μ : pb_M} {v1 v2 v3 v4 v5 v6 v7 : Int32} {F : Int32 → Int32 → Int32 → pb_M → Option (Int32 × pb_M)} : pX7_take_J129 v1 v2 v3 F v4 v5 v6 v7 μ = F v4 v5 (v6 + (1 : Int32)) μ := by
  unfold pX7_take_J129 pX7_take_J130
  rw [if_pos rfl, if_pos rfl]
theorem m_takeL {μ : pb_M} {a : pb_Vg} {M : Nat} (hm : pb_MM μ 0 a) (hz : vOk M a) (hM : 100 ≤ M) (hM2 : M ≤ 700000) {p o : Nat} {v : Int32} (hp : p < vP a) (ho : o < vP a) (hpo : p ≠ o) (hcl : ∀ b, b < vB a → vClause a p b = 0 → a (32 + b) ≠ 0) : ∀ (c b n : Nat) (r : Nat → Int32) (z : Option (Nat × Nat)), b + c = vB a → c < n → tkOk a z → pb_Fr (μ.1 21) r 45 → ∃ r', pX7_take_L37 (nI p) (nI o) v n (tkE1 z) (tkE2 z) (nI b) (pb_sA μ 21 r) = some (if v = 0 then tkE1 (pb_it (tkB a p o) c b z) else tkE2 (pb_it (tkB a p o) c b z), pb_sA μ 21 r') ∧ pb_Fr (μ.1 21) r' 45
  | _, _, 0, _, _, _, hn, _, _ => by omega
  | 0, b, n + 1, r, z, hb, _, hk, hr => by
    have hB := hz.1.2
    have hm1 := MM_fr hm hr
    refine ⟨r, ?_, hr⟩
    rw [pX7_take_L37, hm1.2.2.2, if_pos ((nI_leI (by omega) (by omega)).mpr (by omega))]
    by_cases e : v = 0
    · rw [if_pos e, if_pos e]
      rfl
    · rw [if_neg e, if_neg e]
      rfl
  | c + 1, b, n + 1, r, z, hb, hn, hk, hr => by
    have hB := hz.1.2
    have hP := hz.1.1
    have hs := hz.s (by omega)
    have hm1 := MM_fr hm hr
    have hbl : b < vB a := by omega
    have hob := (hz.2.1 b hbl).1
    have hnb : ¬ nI (vB a) ≤ nI b := fun z => (show ¬ vB a ≤ b by omega) ((nI_leI (by omega) (by omega)).mp z)
    have hown : (pb_sA μ 21 r).1 21 (8 + b) = nI (a (27 + b)) := by have := hm1.1.own (b := b) (by omega); simpa using this
    have hk2 := hk.B hz hp ho hbl
    have n1 : nI b + (1 : Int32) = nI (b + 1) := nI_add b 1
    have n8 : (8 : Int32) + nI b = nI (8 + b) := nI_add 8 b
    show ∃ r', _ = some (if v = 0 then tkE1 (pb_it (tkB a p o) c (b + 1) (tkB a p o b z)) else tkE2 (pb_it (tkB a p o) c (b + 1) (tkB a p o b z)), pb_sA μ 21 r') ∧ _
    by_cases e1 : a (27 + b) = o
    · have hcb := vClause_lt a p b
      have hcc := m_clause hm1 hs (show 0 < 2 by omega) (p := p) (by omega) hbl hB (by omega)
      by_cases e0 : vClause a p b = 0
      · obtain ⟨r1, g1, g2⟩ := m_owed hm1 hz hM hM2 hp ho hpo hbl (hcl b hbl e0) e1
        rw [pb_sA_sA] at g1
        rw [pb_sA_eq] at g2
        have hr1 := hr.tr g2
        have hm2 := MM_fr hm hr1
        obtain ⟨r2, k1, k2⟩ := m_takeL hm hz hM hM2 hp ho hpo hcl c (b + 1) n r1 (tkB a p o b z) (by omega) (by omega) hk2 hr1 (v := v)
        refine ⟨r2, Eq.trans ?_ k1, k2⟩
        have hv := vOwed_le hz hp ho (b := b)
        rw [pX7_take_L37, hm1.2.2.2, if_neg hnb, n8, if_pos (q_in (by omega) (by omega)), q_cl (by omega), hown, if_pos (by rw [e1]), show (0 : Int32) = nI 0 from rfl, hcc, pb_b_some, e0, if_pos rfl, g1, pb_b_some, m_takeJ1, m_takeJ0]
        unfold tkB
        rw [if_pos (show vClause a p b = 0 ∧ a (27 + b) = o from ⟨e0, e1⟩)]
        cases z with
        | none =>
          rw [if_pos (show tkE1 none = (-9 : Int32) from rfl), n1]
          rfl
        | some y =>
          have hy := hk y rfl
          have hsb := hs (32 + b) (by omega)
          have hsy := hs (32 + y.1) (by omega)
          have w1 := m0_wor hm2 (b := b) (by omega)
          have w2 := m0_wor hm2 (b := y.1) (by omega)
          rw [show tkE1 (some y) = nI y.1 from rfl, show tkE2 (some y) = nI y.2 from rfl, if_neg (show ¬ nI y.1 = (-9 : Int32) from nI_ne9 (by omega)), n1, show (13 : Int32) + nI b = nI (13 + b) from nI_add 13 b, show (13 : Int32) + nI y.1 = nI (13 + y.1) from nI_add 13 y.1, if_pos (q_in (show 13 + b < 90 by omega) (by omega)), if_pos (q_in (show 13 + y.1 < 90 by omega) (by omega)), q_cl (show 13 + b < 2000000000 by omega), q_cl (show 13 + y.1 < 2000000000 by omega), w1, w2]
          by_cases q1 : vOwed a p o b < y.2
          · rw [if_pos ((nI_ltI (by omega) (by omega)).mpr q1), show tkN a p o b (some y) = some (b, vOwed a p o b) from if_pos (Or.inl q1)]
            rfl
          · rw [if_neg (fun z => q1 ((nI_ltI (by omega) (by omega)).mp z))]
            by_cases q2 : vOwed a p o b = y.2
            · rw [if_pos (by rw [q2])]
              by_cases q3 : a (32 + y.1) ≤ a (32 + b)
              · rw [if_pos ((nI_leI (by omega) (by omega)).mpr q3), show tkN a p o b (some y) = some y from if_neg (by omega)]
                rfl
              · rw [if_neg (fun z => q3 ((nI_leI (by omega) (by omega)).mp z)), show tkN a p o b (some y) = some (b, vOwed a p o b) from if_pos (by omega)]
                rfl
            · rw [if_neg (fun z => q2 ((nI_eq (by omega) (by omega)).mp z)), show tkN a p o b (some y) = some y from if_neg (by omega)]
              rfl
      · have e3 : tkB a p o b z = z := by unfold tkB; rw [if_neg (fun q => e0 q.1)]
        obtain ⟨r2, k1, k2⟩ := m_takeL hm hz hM hM2 hp ho hpo hcl c (b + 1) n r z (by omega) (by omega) hk hr (v := v)
        refine ⟨r2, ?_, k2⟩
        rw [e3, pX7_take_L37, hm1.2.2.2, if_neg hnb, n8, if_pos (q_in (by omega) (by omega)), q_cl (by omega), hown, if_pos (by rw [e1]), show (0 : Int32) = nI 0 from rfl, hcc, pb_b_some, if_neg (fun z => e0 ((nI_eq (by omega) (by omega)).mp z)), n1]
        exact k1
    · have e3 : tkB a p o b z = z := by unfold tkB; rw [if_neg (fun q => e1 q.2)]
      obtain ⟨r2, k1, k2⟩ := m_takeL hm hz hM hM2 hp ho hpo hcl c (b + 1) n r z (by omega) (by omega) hk hr (v := v)
      refine ⟨r2, ?_, k2⟩
      rw [e3, pX7_take_L37, hm1.2.2.2, if_neg hnb, n8, if_pos (q_in (by omega) (by omega)), q_cl (by omega), hown, if_neg (fun z => e1 ((nI_eq (by omega) (by omega)).mp z)), n1]
      exact k1
end TAKE3
