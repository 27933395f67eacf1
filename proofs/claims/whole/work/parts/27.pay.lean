section PAY
variable {K : Nat} {S : pb_S}
theorem in19 {x : Int32} : ((1 : Int64) ≤ x.toInt64 ∧ x.toInt64 ≤ (9 : Int64)) = ((1 : Int32) ≤ x ∧ x ≤ (9 : Int32)) := by
  rw [show (1 : Int64) = (1 : Int32).toInt64 from rfl, show (9 : Int64) = (9 : Int32).toInt64 from rfl]
  simp only [l_le]
theorem m_payL {μ : pb_M} {p o : Nat} (hp : p < 4) (ho : o < 4) : ∀ (c b n M : Nat) (r : Nat → Int32) (z : pb_Vg), b + c = vB z → c < n → 100 ≤ M → M ≤ 900000 → pb_MM (pb_sA μ 21 r) 0 z → vOk M z → ∃ r', (∀ Kc : pb_M → Option (Int32 × pb_M), pX7_pay_L114 (nI p) (nI o) Kc n (nI b) (pb_sA μ 21 r) = Kc (pb_sA μ 21 r')) ∧ pb_MM (pb_sA μ 21 r') 0 (if vDebt z p o = 0 then pb_it (vSendB p o) c b z else z)
  | _, _, 0, _, _, _, _, hn, _, _, _, _ => by omega
  | 0, b, n + 1, M, r, z, hb, _, hM, hM2, hm, hz => by
    have hB := hz.1.2
    refine ⟨r, fun Kc => ?_, ?_⟩
    · simp (disch := omega) only [pX7_pay_L114, hm.2.2.2, lz, q_add, q_in, q_cl, q_eq, q_lt, q_le, q_9, q_b10, q_b01, Nat.one_ne_zero, eq_self, if_true, if_false, pb_b_some, show b = vB z by omega, Nat.le_refl]
    · have : pb_it (vSendB p o) 0 b z = z := rfl
      rw [this]
      split <;> exact hm
  | c + 1, b, n + 1, M, r, z, hb, hn, hM, hM2, hm, hz => by
    have hB := hz.1.2
    have hP := hz.1.1
    have h1 := hz.2.1 b (by omega)
    have hb5 : b < 5 := by omega
    have hd := (hz.2.2.1 p o hp ho).1
    have e1 : vB (vSendB p o b z) = vB z := vSendB_lo (by omega) (by omega)
    have e1d : vDebt (vSendB p o b z) p o = vDebt z p o := vSendB_lo (by omega) (by omega)
    have hz1 := hz.sendB (p := p) (o := o) (b := b) (by omega) hM
    have st : ∀ Kc : pb_M → Option (Int32 × pb_M), pX7_pay_L114 (nI p) (nI o) Kc (n + 1) (nI b) (pb_sA μ 21 r) = if vDebt z p o = 0 then (if z (27 + b) = p then (if pb_e (42 + b) (z (42 + b)) = nI o then pb_b (pX7_shutOn (nI 0) (nI b) (-nI 9) (pb_sA μ 21 r)) (fun _ μ171 => pX7_pay_L114 (nI p) (nI o) Kc n (nI (b + 1)) μ171) else pX7_pay_L114 (nI p) (nI o) Kc n (nI (b + 1)) (pb_sA μ 21 r)) else pX7_pay_L114 (nI p) (nI o) Kc n (nI (b + 1)) (pb_sA μ 21 r)) else pX7_pay_L114 (nI p) (nI o) Kc n (nI (b + 1)) (pb_sA μ 21 r) := fun Kc => by
      simp (disch := omega) only [pX7_pay_L114, hm.2.2.2, m_debt, m0_debt hm hp ho, m0_own hm hb5, m0_hol hm hb5, lz, q_add, q_in, q_cl, q_eq, q_lt, q_le, q_9, q_b10, q_b01, Nat.one_ne_zero, eq_self, if_true, if_false, pb_b_some]
      rw [if_neg (by omega)]
    simp only [st]
    by_cases e0 : vDebt z p o = 0
    · rw [if_pos e0]
      show ∃ r', _ ∧ pb_MM (pb_sA μ 21 r') 0 (pb_it (vSendB p o) c (b + 1) (vSendB p o b z))
      by_cases e : z (27 + b) = p
      · have q : (pb_e (42 + b) (z (42 + b)) = nI o) = (z (42 + b) = o + 1) := by
          cases hx : z (42 + b) with
          | zero =>
            rw [pb_e_0 (by omega)]
            exact propext ⟨fun z => absurd z.symm (nI_ne9 (by omega)), fun z => by omega⟩
          | succ k =>
            rw [pb_e_s (by omega), q_eq (by omega) (by omega)]
            simp
        by_cases e2 : z (42 + b) = o + 1
        · have e3 : vSendB p o b z = vHome z b := by unfold vSendB; rw [if_pos ⟨e, e2⟩]
          obtain ⟨r1, g1, g2, g3⟩ := m_home (lv := 0) hm.1 (by omega) hb5
          rw [pb_sA_sA] at g1
          have hsm := vHome_same (a := z) hb5 hB
          have hm1 := hm.with g2 hsm.1 hsm.2.1 hsm.2.2
          rw [pb_sA_sA] at hm1
          rw [e3] at e1 e1d hz1 ⊢
          obtain ⟨r', k1, k2⟩ := m_payL hp ho c (b + 1) n M r1 (vHome z b) (by omega) (by omega) hM hM2 hm1 hz1
          rw [if_pos (by rw [e1d]; exact e0)] at k2
          refine ⟨r', fun Kc => ?_, k2⟩
          rw [if_pos e0, if_pos e, if_pos (by rw [q]; exact e2), g1, pb_b_some, k1]
        · have e3 : vSendB p o b z = z := by unfold vSendB; rw [if_neg (fun q => e2 q.2)]
          rw [e3]
          obtain ⟨r', k1, k2⟩ := m_payL hp ho c (b + 1) n M r z (by omega) (by omega) hM hM2 hm hz
          rw [if_pos e0] at k2
          refine ⟨r', fun Kc => ?_, k2⟩
          rw [if_pos e0, if_pos e, if_neg (by rw [q]; exact e2), k1]
      · have e3 : vSendB p o b z = z := by unfold vSendB; rw [if_neg (fun q => e q.1)]
        rw [e3]
        obtain ⟨r', k1, k2⟩ := m_payL hp ho c (b + 1) n M r z (by omega) (by omega) hM hM2 hm hz
        rw [if_pos e0] at k2
        refine ⟨r', fun Kc => ?_, k2⟩
        rw [if_pos e0, if_neg e, k1]
    · rw [if_neg e0]
      obtain ⟨r', k1, k2⟩ := m_payL hp ho c (b + 1) n M r z (by omega) (by omega) hM hM2 hm hz
      rw [if_neg e0] at k2
      refine ⟨r', fun Kc => ?_, k2⟩
      rw [if_neg e0, k1]
theorem m_in19 {μ : pb_M} {w : Int32} : pX7_in w.toInt64 1 9 μ = some (nI (if (1 : Int32) ≤ w ∧ w ≤ (9 : Int32) then 1 else 0), μ) := by
  rw [m_in]
  simp only [in19]
set_option maxRecDepth 100000 in
theorem m_pay_ok (hA : InvA K S) (hK : K + 1 ≤ 64) {μ : pb_M} (hM : InvM μ S) {p o k : Nat} (hp : p < vP S.1) (ho : o < vP S.1) (e : p ≠ o) (hk1 : 1 ≤ k) (hk9 : k ≤ 9) (hq : k ≤ vDebt S.1 p o ∧ k ≤ S.1 (7 + p)) (h1 : inR (nI p) (vP S.1) = true) (h2 : inR (nI o) (vP S.1) = true) (hw : (1 : Int32) ≤ nI k ∧ nI k ≤ (9 : Int32)) :
    ∃ μ', pX7_pay (nI p) (nI o) (nI k) μ = some (nI (vDebt (vPay S.1 p o k) p o), μ') ∧ InvM μ' (vPay S.1 p o k, (pb_push S).2) ∧ frM μ μ' := by
  have hP := hA.1.1.1.1
  have hB := hA.1.1.1.2
  have hs := hA.s
  have hp4 : p < 4 := by omega
  have ho4 : o < 4 := by omega
  have hd := (hA.1.1.2.2.1 p o hp4 ho4).1
  have hmn := hs (7 + p) (by omega)
  have hM2 : 100 + 10 * K ≤ 800000 := by have := hA.1.2; omega
  obtain ⟨μ1, g1, g2, g3⟩ := m_rem hA hM
  have hm1 : pb_MM μ1 0 S.1 := g2.1
  obtain ⟨w1, w2⟩ := hA.1.1.pay0 (n := k) hp ho e hk9 (by omega)
  have r0 : pb_MR (μ1.1 21) (45 * 0) S.1 := hm1.1
  have r1 := mu_mon r0 (p := p) (x := S.1 (7 + p) - k) hp4
  have r2 := mu_mon r1 (p := o) (x := pb_u S.1 (7 + p) (S.1 (7 + p) - k) (7 + o) + k) ho4
  have e0 : vDebt (pb_u (pb_u S.1 (7 + p) (S.1 (7 + p) - k)) (7 + o) (pb_u S.1 (7 + p) (S.1 (7 + p) - k) (7 + o) + k)) p o = vDebt S.1 p o := by
    unfold vDebt
    rw [pb_u_ne (by omega), pb_u_ne (by omega)]
  have r3 := mu_debt r2 (i := p) (j := o) (x := vDebt S.1 p o - k) hp4 ho4
  have ez : pb_u (pb_u (pb_u S.1 (7 + p) (S.1 (7 + p) - k)) (7 + o) (pb_u S.1 (7 + p) (S.1 (7 + p) - k) (7 + o) + k)) (11 + 4 * p + o) (vDebt S.1 p o - k) = vPay0 S.1 p o k := by
    unfold vPay0 vLess
    rw [e0]
  rw [ez] at r3
  simp only [Nat.mul_zero, Nat.zero_add] at r1 r2 r3
  have q1 : upd (μ1.1 21) (4 + p) (nI (S.1 (7 + p) - k)) (4 + o) = nI (pb_u S.1 (7 + p) (S.1 (7 + p) - k) (7 + o)) := by
    have := r1.mon ho4
    simpa using this
  have q2 : upd (upd (μ1.1 21) (4 + p) (nI (S.1 (7 + p) - k))) (4 + o) (nI (pb_u S.1 (7 + p) (S.1 (7 + p) - k) (7 + o) + k)) (28 + 4 * p + o) = nI (vDebt S.1 p o) := by
    have := r2.debt hp4 ho4
    rw [e0] at this
    simpa using this
  have hm3 := pb_MM.with (lv := 0) hm1 (r := upd (upd (upd (μ1.1 21) (4 + p) (nI (S.1 (7 + p) - k))) (4 + o) (nI (pb_u S.1 (7 + p) (S.1 (7 + p) - k) (7 + o) + k))) (28 + 4 * p + o) (nI (vDebt S.1 p o - k))) r3 (w2 0 (by omega)) (w2 1 (by omega)) (fun b hb => w2 (37 + b) (by omega))
  have eB : vB (vPay0 S.1 p o k) = vB S.1 := w2 1 (by omega)
  obtain ⟨r', k1, k2⟩ := m_payL (μ := μ1) hp4 ho4 (vB (vPay0 S.1 p o k)) 0 pb_F (100 + 10 * K + 9) _ (vPay0 S.1 p o k) (by omega) (pb_Fgt (by omega)) (by omega) (by omega) hm3 w1
  have k3 : pb_MM (pb_sA μ1 21 r') 0 (vPay S.1 p o k) := k2
  refine ⟨pb_sA μ1 21 r', ?_, g2.vil k3, g3.tr (frM.sA (by omega))⟩
  unfold pX7_pay
  rw [m_isP hM.1.2.2.1 hP, if_pos h1, pb_b_some, if_neg (by decide), m_isP hM.1.2.2.1 hP, if_pos h2, pb_b_some, if_neg (by decide), if_neg (fun z => e ((nI_eq (by omega) (by omega)).mp z)), m_in19, if_pos hw, pb_b_some, if_neg (by decide), show (0 : Int32) = nI 0 from rfl, m_debt, pb_b_some, if_pos (q_in (by omega) (by omega)), q_cl (by omega), m0_debt hM.1 hp4 ho4]
  rw [if_neg (fun z => (show ¬ vDebt S.1 p o < k by omega) ((nI_ltI (by omega) (by omega)).mp z)), show (4 : Int32) + nI p = nI (4 + p) from nI_add 4 p, show (4 : Int32) + nI o = nI (4 + o) from nI_add 4 o, if_pos (q_in (by omega) (by omega)), q_cl (show 4 + p < 2000000000 by omega), q_cl (show 4 + o < 2000000000 by omega), m0_mon hM.1 hp4, if_pos ((nI_leI (by omega) (by omega)).mpr hq.2), g1, pb_b_some]
  rw [if_pos (q_in (by omega) (by omega)), if_pos (q_in (by omega) (by omega)), if_pos (q_in (by omega) (by omega)), if_pos (q_in (by omega) (by omega)), m0_mon hm1 hp4, q_sub hq.2, pb_sA_eq, q1, pb_sA_sA, nI_add, m_debt, pb_b_some, if_pos (q_in (by omega) (by omega)), if_pos (q_in (by omega) (by omega)), q_cl (by omega), pb_sA_eq, show 45 * 0 + 28 + 4 * p + o = 28 + 4 * p + o by omega, q2, q_sub hq.1, pb_sA_sA, k1, m_debt, pb_b_some, if_pos (q_in (by omega) (by omega)), q_cl (by omega), m0_debt k3 hp4 ho4]
end PAY
