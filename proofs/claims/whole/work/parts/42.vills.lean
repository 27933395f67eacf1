section VILS
variable {K : Nat} {S : pb_S} {μ : pb_M} {z : pb_Vg} {M : Nat}
theorem vKeep_B (z : pb_Vg) {b : Nat} : vKeep z b 1 = z 1 := by
  unfold vKeep vHome vLess
  rw [pb_u_ne (by omega), pb_u_ne (by omega), pb_u_ne (by omega), pb_u_ne (by omega)]
theorem jKv_B (z : pb_Vg) (y : Int32) : vB (jKv z y) = vB z := by
  unfold jKv vB
  split
  · exact vKeep_B z
  · rfl
theorem vShut_B (z : pb_Vg) {p b : Nat} : vShut z p b 1 = z 1 := by
  unfold vShut
  rw [pb_u_ne (by omega), pb_u_ne (by omega)]
def vlP (c b : Nat) (z : pb_Vg) : pb_Vg := pb_it (fun b z => jKv z (nI b)) c b z
def vlT (z : pb_Vg) : pb_Vg := vlP (vB z) 0 (vPass z)
theorem vlP_ok (hM : 100 ≤ M) : ∀ (c b : Nat) (z : pb_Vg), vOk M z → vOk M (vlP c b z)
  | 0, _, _, hz => hz
  | c + 1, b, z, hz => vlP_ok hM c (b + 1) _ (jKv_ok hz hM (nI b))
theorem vPass_B (hz : vOk M z) (hM : 100 ≤ M) : vB (vPass z) = vB z := (hz.pass hM).2 1 (by omega)
theorem vlT_ok (hz : vOk M z) (hM : 100 ≤ M) : vOk (M + 6) (vlT z) := vlP_ok (by omega) _ _ _ (hz.pass hM).1
theorem c_kpL : ∀ (c b n : Nat) (f : Nat → Int32) (z : pb_Vg), b + c = vB z → c < n → 100 ≤ M → M ≤ 800000 → pb_CR f 0 z → vOk M z → ∃ f', pX6_keepAllRipe_L2 n (nI b) (pb_sA μ (6 + 1) f) = some ((), pb_sA μ (6 + 1) f') ∧ pb_CR f' 0 (vlP c b z)
  | _, _, 0, _, _, _, hn, _, _, _, _ => by omega
  | 0, b, n + 1, f, z, hb, _, hM, hM2, hc, hz => by
    have h6 := hz.1.2
    have hc' : pb_CR ((pb_sA μ (6 + 1) f).1 (6 + 1)) 0 z := by rw [pb_sA_eq]; exact hc
    refine ⟨f, ?_, hc⟩
    rw [pX6_keepAllRipe_L2, c_beasts hc', pb_b_some, if_pos ((nI_leI (by omega) (by omega)).mpr (by omega))]
  | c + 1, b, n + 1, f, z, hb, hn, hM, hM2, hc, hz => by
    have h6 := hz.1.2
    have hc' : pb_CR ((pb_sA μ (6 + 1) f).1 (6 + 1)) 0 z := by rw [pb_sA_eq]; exact hc
    obtain ⟨f1, g1, g2⟩ := c_jK hc' hz (by omega) (nI b)
    rw [pb_sA_sA] at g1
    obtain ⟨f', k1, k2⟩ := c_kpL c (b + 1) n f1 (jKv z (nI b)) (by rw [jKv_B]; omega) (by omega) hM hM2 g2 (jKv_ok hz hM (nI b))
    refine ⟨f', ?_, k2⟩
    rw [pX6_keepAllRipe_L2, c_beasts hc', pb_b_some, if_neg (fun z => (show ¬ vB _ ≤ b by omega) ((nI_leI (by omega) (by omega)).mp z)), g1, pb_b_some, show (1 : Int32) = nI 1 from rfl, nI_add]
    exact k1
theorem m_kpL {v1 v2 : Int32} : ∀ (c b n : Nat) (r : Nat → Int32) (z : pb_Vg), b + c = vB z → c < n → 100 ≤ M → M ≤ 800000 → pb_MM (pb_sA μ 21 r) 1 z → vOk M z → ∃ r', (∀ Kc, pX7_villages_L114 v1 v2 Kc n (nI b) (pb_sA μ 21 r) = Kc (pb_sA μ 21 r')) ∧ pb_MM (pb_sA μ 21 r') 1 (vlP c b z) ∧ pb_Fr r r' 45
  | _, _, 0, _, _, _, hn, _, _, _, _ => by omega
  | 0, b, n + 1, r, z, hb, _, hM, hM2, hm, hz => by
    have h6 := hz.1.2
    refine ⟨r, fun Kc => ?_, hm, pb_Fr.rf⟩
    rw [pX7_villages_L114, hm.2.2.2, if_pos ((nI_leI (by omega) (by omega)).mpr (by omega))]
  | c + 1, b, n + 1, r, z, hb, hn, hM, hM2, hm, hz => by
    have h6 := hz.1.2
    have hs := hz.s (by omega)
    have hcan : pX7_canKeep (1 : Int32) (nI b) (pb_sA μ 21 r) = some (nI (if z (42 + b) ≠ 0 ∧ 3 ≤ z (47 + b) then 1 else 0), pb_sA μ 21 r) := m_canKeep hm.1 hs (show 1 < 2 by omega) (show b < 5 by omega)
    have hin : inR (nI b) (vB z) = true := by rw [inR_nI (by omega) (by omega)]; simp; omega
    have n1 : nI b + (1 : Int32) = nI (b + 1) := nI_add b 1
    by_cases h4 : z (42 + b) ≠ 0 ∧ 3 ≤ z (47 + b)
    · obtain ⟨r1, g1, g2, g3⟩ := m_keep hm (show 1 < 2 by omega) hz (by omega) (show b < vB z by omega) h4.1
      rw [pb_sA_sA] at g1 g2
      rw [pb_sA_eq] at g3
      have e : jKv z (nI b) = vKeep z b := by
        unfold jKv jK
        rw [nC_nI (by omega), hin, decide_eq_true h4]
        rfl
      obtain ⟨r', k1, k2, k3⟩ := m_kpL c (b + 1) n r1 (jKv z (nI b)) (by rw [jKv_B]; omega) (by omega) hM hM2 (by rw [e]; exact g2) (jKv_ok hz hM (nI b))
      refine ⟨r', fun Kc => ?_, k2, g3.tr k3⟩
      rw [pX7_villages_L114, hm.2.2.2, if_neg (fun z => (show ¬ vB _ ≤ b by omega) ((nI_leI (by omega) (by omega)).mp z)), hcan, pb_b_some, if_pos h4, if_neg (by decide), show (1 : Int32) = nI 1 from rfl, g1, pb_b_some, nI_add]
      exact k1 Kc
    · have e : jKv z (nI b) = z := by
        unfold jKv jK
        rw [nC_nI (by omega), decide_eq_false h4, Bool.and_false]
        rfl
      obtain ⟨r', k1, k2, k3⟩ := m_kpL c (b + 1) n r (jKv z (nI b)) (by rw [jKv_B]; omega) (by omega) hM hM2 (by rw [e]; exact hm) (jKv_ok hz hM (nI b))
      refine ⟨r', fun Kc => ?_, k2, k3⟩
      rw [pX7_villages_L114, hm.2.2.2, if_neg (fun z => (show ¬ vB _ ≤ b by omega) ((nI_leI (by omega) (by omega)).mp z)), hcan, pb_b_some, if_neg h4, if_pos (show nI 0 = (0 : Int32) from rfl), n1]
      exact k1 Kc
theorem m_vlT {v1 v2 : Int32} (hm : pb_MM μ 1 z) (hz : vOk M z) (hM : 100 ≤ M) (hM2 : M ≤ 700000) : ∃ r, (∀ Kc, pb_b (pX7_passOn (1 : Int32) μ) (fun _ μ108 => pX7_villages_L114 v1 v2 Kc pb_F (0 : Int32) μ108) = Kc (pb_sA μ 21 r)) ∧ pb_MM (pb_sA μ 21 r) 1 (vlT z) ∧ pb_Fr (μ.1 21) r 45 := by
  have h6 := hz.1.2
  have hB := vPass_B hz hM
  obtain ⟨r, g1, g2, g3⟩ := m_pass hm (show 1 < 2 by omega) hz hM (by omega)
  obtain ⟨r', k1, k2, k3⟩ := m_kpL (μ := μ) (v1 := v1) (v2 := v2) (M := M + 6) (vB z) 0 pb_F r (vPass z) (by omega) (pb_Fgt (by omega)) (by omega) (by omega) g2 (hz.pass hM).1
  refine ⟨r', fun Kc => ?_, k2, g3.tr k3⟩
  rw [show (1 : Int32) = nI 1 from rfl, g1, pb_b_some]
  exact k1 Kc
def vlK (s : Int64) : Nat := s.toBitVec.toNat / 2 ^ 33
theorem vlK_lt (s : Int64) : vlK s < 2 ^ 31 := by
  unfold vlK
  have := s.toBitVec.isLt
  omega
theorem vl_sh (s : Int64) : (s.toUInt64 >>> (((33 : Int32)).toInt64.toUInt64 &&& Int64.toUInt64 63)).toInt64 = nL (vlK s) := by
  apply Int64.toBitVec_inj.mp
  have e : (s.toUInt64 >>> (((33 : Int32)).toInt64.toUInt64 &&& Int64.toUInt64 63)).toInt64.toBitVec = s.toBitVec >>> 33 := by
    rw [show (33 : Nat) = (((((33 : Int32)).toInt64.toUInt64 &&& Int64.toUInt64 63)).toBitVec % 64).toNat from by decide]
    exact UInt64.toBitVec_shiftRight _ _
  rw [e]
  apply BitVec.eq_of_toNat_eq
  rw [BitVec.toNat_ushiftRight, Nat.shiftRight_eq_div_pow]
  have h := vlK_lt s
  show vlK s = (BitVec.ofNat 64 (vlK s)).toNat
  rw [BitVec.toNat_ofNat, Nat.mod_eq_of_lt (by omega)]
def vlF (nx : Int64 → Int64) (t : Int64 × pb_Vg) : Int64 × pb_Vg := (nx t.1, vlT (jDv t.2 (nI (vlK (nx t.1) % 30 / 6)) (nI (vlK (nx t.1) % 30 % 6))))
theorem vlF_ok {nx : Int64 → Int64} {t : Int64 × pb_Vg} (hz : vOk M t.2) (hM : 100 ≤ M) : vOk (M + 6) (vlF nx t).2 := vlT_ok (jDv_ok hz hM _ _) hM
theorem c_vilL {nx : Int64 → Int64} (hnx : ∀ s : Int64, s * (6364136223846793005 : Int64) + (1442695040888963407 : Int64) = nx s) {m : Nat} (hm : m ≤ 30) : ∀ (c b n M : Nat) (f : Nat → Int32) (t : Int64 × pb_Vg), b + c = m → c < n → 100 ≤ M → M + 6 * c ≤ 600000 → pb_CR f 0 t.2 → vOk M t.2 → ∃ f', (∀ Kc, pX6_villages_L27 (nI m) Kc n (nI b) (pb_sL (pb_sA μ (6 + 1) f) 0 t.1) = Kc (pb_sL (pb_sA μ (6 + 1) f') 0 (pb_it (fun _ t => vlF nx t) c b t).1)) ∧ pb_CR f' 0 (pb_it (fun _ t => vlF nx t) c b t).2 ∧ vOk (M + 6 * c) (pb_it (fun _ t => vlF nx t) c b t).2
  | _, _, 0, _, _, _, _, hn, _, _, _, _ => by omega
  | 0, b, n + 1, M, f, t, hb, _, hM, hM2, hc, hz => by
    refine ⟨f, fun Kc => ?_, hc, hz⟩
    rw [pX6_villages_L27, if_pos ((nI_leI (by omega) (by omega)).mpr (by omega))]
    rfl
  | c + 1, b, n + 1, M, f, t, hb, hn, hM, hM2, hc, hz => by
    have hk := vlK_lt (nx t.1)
    have hc0 : pb_CR ((pb_sL (pb_sA μ (6 + 1) f) 0 (nx t.1)).1 (6 + 1)) 0 t.2 := by rw [pb_sL_1, pb_sA_eq]; exact hc
    obtain ⟨f1, g1, g2⟩ := c_jD hc0 hz (by omega) (nI (vlK (nx t.1) % 30 / 6)) (nI (vlK (nx t.1) % 30 % 6))
    have z1 := jDv_ok hz hM (nI (vlK (nx t.1) % 30 / 6)) (nI (vlK (nx t.1) % 30 % 6))
    have hc1 : pb_CR ((pb_sL (pb_sA μ (6 + 1) f1) 0 (nx t.1)).1 (6 + 1)) 0 (jDv t.2 (nI (vlK (nx t.1) % 30 / 6)) (nI (vlK (nx t.1) % 30 % 6))) := by rw [pb_sL_1, pb_sA_eq]; exact g2
    obtain ⟨f2, g3, g4⟩ := c_pass hc1 z1 hM (by omega)
    obtain ⟨f3, g5, g6⟩ := c_kpL (μ := pb_sL μ 0 (nx t.1)) (M := M + 6) _ 0 pb_F f2 _ (show 0 + vB (jDv t.2 (nI (vlK (nx t.1) % 30 / 6)) (nI (vlK (nx t.1) % 30 % 6))) = _ by rw [vPass_B z1 hM]; omega) (pb_Fgt (by have := z1.1.2; omega)) (by omega) (by omega) g4 (z1.pass hM).1
    obtain ⟨f', k1, k2, k3⟩ := c_vilL hnx hm c (b + 1) n (M + 6) f3 (vlF nx t) (by omega) (by omega) (by omega) (by omega) g6 (vlF_ok hz hM)
    refine ⟨f', fun Kc => ?_, k2, k3.mono (by omega)⟩
    rw [pb_sLA, pb_sA_sA] at g1 g3
    rw [pb_sLA] at g5
    have g5' : pX6_keepAllRipe (pb_sL (pb_sA μ (6 + 1) f2) 0 (nx t.1)) = some ((), pb_sL (pb_sA μ (6 + 1) f3) 0 (nx t.1)) := g5
    rw [pX6_villages_L27, if_neg (fun z => (show ¬ m ≤ b by omega) ((nI_leI (by omega) (by omega)).mp z)), pb_sLL, pb_sL_2, pb_sL_2, hnx, vl_sh, nL_i hk, show pb_rem (nI (vlK (nx t.1))) (30 : Int32) = nI (vlK (nx t.1) % 30) from pk_rem (d := 30) hk (by omega) (by omega), show nI (vlK (nx t.1) % 30) / (6 : Int32) = nI (vlK (nx t.1) % 30 / 6) from q_div (y := 6) (by omega) (by omega) (by omega), show pb_rem (nI (vlK (nx t.1) % 30)) (6 : Int32) = nI (vlK (nx t.1) % 30 % 6) from q_rem (y := 6) (by omega) (by omega) (by omega), g1, pb_b_some, g3, pb_b_some, g5', pb_b_some, show (1 : Int32) = nI 1 from rfl, nI_add]
    exact k1 Kc
theorem m_vilL {nx : Int64 → Int64} (hnx : ∀ s : Int64, s * (6364136223846793005 : Int64) + (1442695040888963407 : Int64) = nx s) {m : Nat} (hm : m ≤ 30) : ∀ (c b n M : Nat) (r : Nat → Int32) (t : Int64 × pb_Vg), b + c = m → c < n → 100 ≤ M → M + 6 * c ≤ 600000 → pb_MM (pb_sA μ 21 r) 1 t.2 → vOk M t.2 → ∃ r', (∀ Kc, pX7_villages_L21 (nI m) Kc n (nI b) (pb_sL (pb_sA μ 21 r) 19 t.1) = Kc (pb_sL (pb_sA μ 21 r') 19 (pb_it (fun _ t => vlF nx t) c b t).1)) ∧ pb_MM (pb_sA μ 21 r') 1 (pb_it (fun _ t => vlF nx t) c b t).2 ∧ pb_Fr r r' 45
  | _, _, 0, _, _, _, _, hn, _, _, _, _ => by omega
  | 0, b, n + 1, M, r, t, hb, _, hM, hM2, hc, hz => by
    refine ⟨r, fun Kc => ?_, hc, pb_Fr.rf⟩
    rw [pX7_villages_L21, if_pos ((nI_leI (by omega) (by omega)).mpr (by omega))]
    rfl
  | c + 1, b, n + 1, M, r, t, hb, hn, hM, hM2, hc, hz => by
    have h5 := hz.1.1
    have h6 := hz.1.2
    have hs := hz.s (by omega)
    have hk := vlK_lt (nx t.1)
    have n1 : nI b + (1 : Int32) = nI (b + 1) := nI_add b 1
    have hm1 : pb_MM (pb_sL (pb_sA μ 21 r) 19 (nx t.1)) 1 t.2 := hc
    have hst : ∃ r1, (∀ Kc, pX7_villages_L21 (nI m) Kc (n + 1) (nI b) (pb_sL (pb_sA μ 21 r) 19 t.1) = pX7_villages_L21 (nI m) Kc n (nI (b + 1)) (pb_sL (pb_sA μ 21 r1) 19 (nx t.1))) ∧ pb_MM (pb_sA μ 21 r1) 1 (vlF nx t).2 ∧ pb_Fr r r1 45 := by
      have hsame : jDv t.2 (nI (vlK (nx t.1) % 30 / 6)) (nI (vlK (nx t.1) % 30 % 6)) = t.2 → ∃ r1, (∀ Kc, pb_b (pX7_passOn (1 : Int32) (pb_sL (pb_sA μ 21 r) 19 (nx t.1))) (fun _ μ108 => pX7_villages_L114 (nI m) (nI b) (fun μk146 => pX7_villages_L21 (nI m) Kc n (nI (b + 1)) μk146) pb_F (0 : Int32) μ108) = pX7_villages_L21 (nI m) Kc n (nI (b + 1)) (pb_sL (pb_sA μ 21 r1) 19 (nx t.1))) ∧ pb_MM (pb_sA μ 21 r1) 1 (vlF nx t).2 ∧ pb_Fr r r1 45 := fun e => by
        obtain ⟨r1, g1, g2, g3⟩ := m_vlT (v1 := nI m) (v2 := nI b) hm1 hz hM (by omega)
        refine ⟨r1, fun Kc => ?_, ?_, ?_⟩
        · rw [g1, pb_sLA, pb_sA_sA]
        · unfold vlF
          rw [e]
          rw [pb_sLA, pb_sA_sA] at g2
          exact g2
        · rw [pb_sL_1, pb_sA_eq] at g3
          exact g3
      have hrw : ∀ Kc, pX7_villages_L21 (nI m) Kc (n + 1) (nI b) (pb_sL (pb_sA μ 21 r) 19 t.1) = pb_b (pX7_isPerson (nI (vlK (nx t.1) % 30 / 6)) (pb_sL (pb_sA μ 21 r) 19 (nx t.1))) (fun b60 μ60 =>
          if b60 = (0 : Int32) then
            pb_b (pX7_passOn (1 : Int32) μ60) (fun _ μ108 => pX7_villages_L114 (nI m) (nI b) (fun μk146 => pX7_villages_L21 (nI m) Kc n (nI (b + 1)) μk146) pb_F (0 : Int32) μ108)
          else
          pb_b (pX7_isBeast (nI (vlK (nx t.1) % 30 % 6)) μ60) (fun b71 μ71 =>
          if b71 = (0 : Int32) then
            pb_b (pX7_passOn (1 : Int32) μ71) (fun _ μ108 => pX7_villages_L114 (nI m) (nI b) (fun μk146 => pX7_villages_L21 (nI m) Kc n (nI (b + 1)) μk146) pb_F (0 : Int32) μ108)
          else
          pb_b (pX7_clauseOn (1 : Int32) (nI (vlK (nx t.1) % 30 / 6)) (nI (vlK (nx t.1) % 30 % 6)) μ71) (fun b87 μ87 =>
          if b87 = (0 : Int32) then
            pb_b (pX7_shutOn (1 : Int32) (nI (vlK (nx t.1) % 30 % 6)) (nI (vlK (nx t.1) % 30 / 6)) μ87) (fun b103 μ103 =>
            pb_b (pX7_passOn (1 : Int32) μ103) (fun _ μ108 => pX7_villages_L114 (nI m) (nI b) (fun μk146 => pX7_villages_L21 (nI m) Kc n (nI (b + 1)) μk146) pb_F (0 : Int32) μ108))
          else
          pb_b (pX7_passOn (1 : Int32) μ87) (fun _ μ108 => pX7_villages_L114 (nI m) (nI b) (fun μk146 => pX7_villages_L21 (nI m) Kc n (nI (b + 1)) μk146) pb_F (0 : Int32) μ108)))) := fun Kc => by
        rw [pX7_villages_L21, if_neg (fun z => (show ¬ m ≤ b by omega) ((nI_leI (by omega) (by omega)).mp z)), pb_sLL, pb_sL_2, pb_sL_2, hnx, vl_sh, show (30 : Int64) = nL 30 from rfl, nL_rem (show vlK (nx t.1) < 2 ^ 63 by omega) (by omega) (by omega), nL_i (show vlK (nx t.1) % 30 < 2 ^ 31 by omega), show nI (vlK (nx t.1) % 30) / (6 : Int32) = nI (vlK (nx t.1) % 30 / 6) from q_div (y := 6) (by omega) (by omega) (by omega), show pb_rem (nI (vlK (nx t.1) % 30)) (6 : Int32) = nI (vlK (nx t.1) % 30 % 6) from q_rem (y := 6) (by omega) (by omega) (by omega), n1]
      have hp30 : vlK (nx t.1) % 30 / 6 < 5 := by omega
      have hb30 : vlK (nx t.1) % 30 % 6 < 6 := by omega
      simp only [hrw]
      generalize hgp : vlK (nx t.1) % 30 / 6 = p at hsame hp30 ⊢
      generalize hgb : vlK (nx t.1) % 30 % 6 = q at hsame hb30 ⊢
      rw [m_isP hm1.2.2.1 h5]
      simp only [pb_b_some]
      by_cases e1 : inR (nI p) (vP t.2) = true
      · rw [if_pos e1, m_isB hm1.2.2.2 h6]
        simp only [pb_b_some, show ¬ nI 1 = (0 : Int32) from by decide, if_false]
        by_cases e2 : inR (nI q) (vB t.2) = true
        · rw [inR_nI (by omega) (by omega)] at e1 e2
          simp only [decide_eq_true_eq] at e1 e2
          have e1' : inR (nI p) (vP t.2) = true := by rw [inR_nI (by omega) (by omega)]; simpa using e1
          have e2' : inR (nI q) (vB t.2) = true := by rw [inR_nI (by omega) (by omega)]; simpa using e2
          have hl := vClause_lt t.2 p q
          have hcl : pX7_clauseOn (1 : Int32) (nI p) (nI q) (pb_sL (pb_sA μ 21 r) 19 (nx t.1)) = some (nI (vClause t.2 p q), pb_sL (pb_sA μ 21 r) 19 (nx t.1)) := m_clause hm1 hs (show 1 < 2 by omega) (show p < 4 by omega) e2 h6 (by have := (hz.2.1 q e2).1; omega)
          rw [if_pos e2', hcl]
          simp only [pb_b_some, show ¬ nI 1 = (0 : Int32) from by decide, if_false]
          by_cases e3 : vClause t.2 p q = 0
          · obtain ⟨r1, g1, g2, g3⟩ := m_shut hm1.1 (show 1 < 2 by omega) (p := p) (b := q) (by omega)
            have ev : jDv t.2 (nI p) (nI q) = vShut t.2 p q := by
              unfold jDv jD
              rw [nC_nI (by omega), nC_nI (by omega), e1', e2', e3]
              rfl
            have hm2 := MM_same hm1 g2 (vShut_same (by omega) h6)
            have hz2 : vOk M (vShut t.2 p q) := by rw [← ev]; exact jDv_ok hz hM _ _
            obtain ⟨r2, k1, k2, k3⟩ := m_vlT (v1 := nI m) (v2 := nI b) hm2 hz2 hM (by omega)
            rw [pb_sLA, pb_sA_sA] at g1
            rw [pb_sL_1, pb_sA_eq] at g3
            rw [pb_sLA, pb_sA_sA] at k1 k2 k3
            refine ⟨r2, fun Kc => ?_, ?_, ?_⟩
            · rw [e3, if_pos (show nI 0 = (0 : Int32) from rfl), show (1 : Int32) = nI 1 from rfl, g1, pb_b_some]
              refine (k1 _).trans ?_
              rw [pb_sLA, pb_sA_sA]
            · unfold vlF
              rw [hgp, hgb, ev]
              rw [pb_sLA, pb_sA_sA] at k2
              exact k2
            · rw [pb_sL_1, pb_sA_eq] at k3
              exact g3.tr k3
          · have hne : ¬ nI (vClause t.2 p q) = (0 : Int32) := fun w => e3 ((nI_eq (b := 0) (by omega) (by omega)).mp w)
            simp only [hne, if_false]
            refine hsame ?_
            unfold jDv jD
            rw [nC_nI (by omega), nC_nI (by omega)]
            simp [e3]
        · rw [if_neg e2]
          simp only [show nI 0 = (0 : Int32) from rfl, if_true]
          refine hsame ?_
          unfold jDv jD
          simp [e2]
      · rw [if_neg e1]
        simp only [show nI 0 = (0 : Int32) from rfl, if_true]
        refine hsame ?_
        unfold jDv jD
        simp [e1]
    obtain ⟨r1, g1, g2, g3⟩ := hst
    obtain ⟨r', k1, k2, k3⟩ := m_vilL hnx hm c (b + 1) n (M + 6) r1 (vlF nx t) (by omega) (by omega) (by omega) (by omega) g2 (vlF_ok hz hM)
    exact ⟨r', fun Kc => (g1 Kc).trans (k1 Kc), k2, g3.tr k3⟩
theorem in130 {x : Int32} : ((1 : Int64) ≤ x.toInt64 ∧ x.toInt64 ≤ (30 : Int64)) = ((1 : Int32) ≤ x ∧ x ≤ (30 : Int32)) := by
  rw [show (1 : Int64) = (1 : Int32).toInt64 from rfl, show (30 : Int64) = (30 : Int32).toInt64 from rfl]
  simp only [l_le]
def pb_seedS (S : pb_S) (s : Int64) : pb_S := (S.1, S.2.1, S.2.2.1, S.2.2.2.1, S.2.2.2.2.1, S.2.2.2.2.2.1, s)
theorem op_villages0 {nx : Int64 → Int64} (hnx : ∀ s : Int64, s * (6364136223846793005 : Int64) + (1442695040888963407 : Int64) = nx s) (hA : InvA K S) (hK : K + 1 ≤ 64) (x : Int32) : pOp K S (pX6_villages x) (pX7_villages x) := by
  have hK2 := hA.1.2
  by_cases h1 : (1 : Int32) ≤ x ∧ x ≤ (30 : Int32)
  · obtain ⟨k, hk, rfl⟩ := nI_of2 (x := x) (M := 30) (n := 30) (by decide) (fun q => by
      have := Int32.lt_iff_toInt_lt.mp q
      have := Int32.le_iff_toInt_le.mp h1.1
      have h0 : (0 : Int32).toInt = 0 := by decide
      have h1' : (1 : Int32).toInt = 1 := by decide
      omega) h1.2
    have hk1 : 1 ≤ k := (nI_leI (a := 1) (by omega) (by omega)).mp h1.1
    have n1 : ¬ nI k < (1 : Int32) := fun z => (show ¬ k < 1 by omega) ((nI_ltI (b := 1) (by omega) (by omega)).mp z)
    have hres : ∀ μ0 : pb_M, ∃ M', vOk M' (pb_it (fun _ t => vlF nx t) k 0 (S.2.2.2.2.2.2, S.1)).2 := fun _ => by
      have : ∀ (c b M : Nat) (t : Int64 × pb_Vg), 100 ≤ M → vOk M t.2 → vOk (M + 6 * c) (pb_it (fun _ t => vlF nx t) c b t).2 := fun c => by
        induction c with
        | zero => exact fun b M t _ h => h
        | succ c ih => exact fun b M t hM h => (ih (b + 1) (M + 6) (vlF nx t) (by omega) (vlF_ok h hM)).mono (by omega)
      exact ⟨_, this k 0 (100 + 10 * K) _ (by omega) hA.1.1⟩
    refine ⟨nI (vAll (pb_it (fun _ t => vlF nx t) k 0 (S.2.2.2.2.2.2, S.1)).2), pb_seedS S (pb_it (fun _ t => vlF nx t) k 0 (S.2.2.2.2.2.2, S.1)).1, fun μ hC => ?_, fun μ hM => ?_, hA.mono hK⟩
    · obtain ⟨f, g1, g2⟩ := c_trial hC.1
      obtain ⟨f', k1, k2, k3⟩ := c_vilL (μ := μ) hnx hk k 0 pb_F (100 + 10 * K) f (S.2.2.2.2.2.2, S.1) (by omega) (pb_Fgt (by omega)) (by omega) (by omega) g2 hA.1.1
      have e0 : pb_sL (pb_sA μ (6 + 1) f) 0 S.2.2.2.2.2.2 = pb_sA μ (6 + 1) f := by
        rw [← hC.2.2.2.2]
        exact pb_sL_self (μ := pb_sA μ (6 + 1) f)
      have hc7 : pb_CR ((pb_sL (pb_sA μ (6 + 1) f') 0 (pb_it (fun _ t => vlF nx t) k 0 (S.2.2.2.2.2.2, S.1)).1).1 (6 + 1)) 0 (pb_it (fun _ t => vlF nx t) k 0 (S.2.2.2.2.2.2, S.1)).2 := by rw [pb_sL_1, pb_sA_eq]; exact k2
      refine ⟨pb_sL (pb_sA μ (6 + 1) f') 0 (pb_it (fun _ t => vlF nx t) k 0 (S.2.2.2.2.2.2, S.1)).1, ?_, ?_, ?_⟩
      · unfold pX6_villages
        rw [if_neg n1, if_pos h1.2, g1, pb_b_some, ← e0]
        refine (k1 _).trans ?_
        rw [c_owedAll hc7 k3.1.1, pb_b_some]
      · have hC2 := hC.ag (agC.sA (μ := μ) (h := 6 + 1) (f := f') (by omega))
        exact ⟨hC2.1, hC2.2.1, hC2.2.2.1, hC2.2.2.2.1, pb_sL_2⟩
      · exact ⟨fun h hh => by rw [pb_sL_1]; exact pb_sA_ne (by omega), by simp [pb_sL, pb_sA]⟩
    · obtain ⟨r, g1, g2, g3⟩ := m_trial hM.1
      obtain ⟨r', k1, k2, k3⟩ := m_vilL (μ := μ) hnx hk k 0 pb_F (100 + 10 * K) r (S.2.2.2.2.2.2, S.1) (by omega) (pb_Fgt (by omega)) (by omega) (by omega) g2 hA.1.1
      obtain ⟨M', hM'⟩ := hres μ
      have e0 : pb_sL (pb_sA μ 21 r) 19 S.2.2.2.2.2.2 = pb_sA μ 21 r := by
        rw [← hM.2.2.2.2]
        exact pb_sL_self (μ := pb_sA μ 21 r)
      have hall : pX7_allOwed (1 : Int32) (pb_sL (pb_sA μ 21 r') 19 (pb_it (fun _ t => vlF nx t) k 0 (S.2.2.2.2.2.2, S.1)).1) = some (nI (vAll (pb_it (fun _ t => vlF nx t) k 0 (S.2.2.2.2.2.2, S.1)).2), pb_sL (pb_sA μ 21 r') 19 (pb_it (fun _ t => vlF nx t) k 0 (S.2.2.2.2.2.2, S.1)).1) := m_allOwed (lv := 1) k2.1 (by omega) hM'
      refine ⟨pb_sL (pb_sA μ 21 r') 19 (pb_it (fun _ t => vlF nx t) k 0 (S.2.2.2.2.2.2, S.1)).1, ?_, ?_, ?_⟩
      · unfold pX7_villages
        rw [m_in]
        simp only [in130]
        rw [if_pos h1, pb_b_some, if_neg (by decide), g1, pb_b_some, ← e0]
        refine (k1 _).trans ?_
        rw [hall, pb_b_some]
      · have hM2 := hM.ag (agM.s21 (g3.tr k3))
        exact ⟨hM2.1, hM2.2.1, hM2.2.2.1, hM2.2.2.2.1, pb_sL_2⟩
      · exact ⟨fun h hh => by rw [pb_sL_1]; exact pb_sA_ne (by omega), by simp [pb_sL, pb_sA]⟩
  · refine pOp.read hA hK (-2) (pC.same fun μ hC => ?_) (pM.same fun μ hM => ?_)
    · unfold pX6_villages
      by_cases h2 : x < (1 : Int32)
      · rw [if_pos h2]
      · rw [if_neg h2, if_neg (fun q => h1 ⟨Int32.not_lt.mp h2, q⟩)]
    · unfold pX7_villages
      rw [m_in]
      simp only [in130]
      rw [if_neg h1, pb_b_some, if_pos (show nI 0 = (0 : Int32) from rfl)]
theorem op_villages (hA : InvA K S) (hK : K + 1 ≤ 64) (x : Int32) : pOp K S (pX6_villages x) (pX7_villages x) := op_villages0 (nx := fun s => s * (6364136223846793005 : Int64) + (1442695040888963407 : Int64)) (fun _ => rfl) hA hK x
end VILS
