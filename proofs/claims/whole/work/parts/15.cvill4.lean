/-! days, payments, breaking out, keeping -/
theorem vPassB_lo {a : pb_Vg} {b j : Nat} (hb : b < 5) (ho : a (27 + b) < 4) (hj : j < 3 ∨ (7 ≤ j ∧ j < 32) ∨ (37 ≤ j ∧ j < 42)) : vPassB a b j = a j := by
  unfold vPassB
  split
  · rfl
  · exact vFeed_lo hb ho hj
theorem vOk.passB {M : Nat} {a : pb_Vg} (h : vOk M a) {b : Nat} (hb : b < vB a) (hM : 100 ≤ M) : vOk (M + 1) (vPassB a b) ∧ (∀ j, (j < 3 ∨ (7 ≤ j ∧ j < 32) ∨ (37 ≤ j ∧ j < 42)) → vPassB a b j = a j) := by
  have hB := h.1.2
  have hP := h.1.1
  have h1 := h.2.1 b hb
  refine ⟨?_, fun j hj => vPassB_lo (by omega) (by omega) hj⟩
  unfold vPassB
  split
  · exact h.mono (Nat.le_succ M)
  · exact h.feed hb hM
theorem vOk.passIt : ∀ (c b M : Nat) (z : pb_Vg), b + c ≤ vB z → 100 ≤ M → vOk M z → vOk (M + c) (pb_it (fun b z => vPassB z b) c b z) ∧ (∀ j, (j < 3 ∨ (7 ≤ j ∧ j < 32) ∨ (37 ≤ j ∧ j < 42)) → pb_it (fun b z => vPassB z b) c b z j = z j)
  | 0, b, M, z, _, _, h => ⟨h, fun _ _ => rfl⟩
  | c + 1, b, M, z, hb, hM, h => by
    obtain ⟨h1, h2⟩ := h.passB (b := b) (by omega) hM
    have e : vB (vPassB z b) = vB z := h2 1 (by omega)
    obtain ⟨h3, h4⟩ := vOk.passIt c (b + 1) (M + 1) (vPassB z b) (by omega) (by omega) h1
    refine ⟨?_, fun j hj => ?_⟩
    · rw [show M + (c + 1) = M + 1 + c by omega]
      exact h3
    · show pb_it (fun b z => vPassB z b) c (b + 1) (vPassB z b) j = z j
      rw [h4 j hj, h2 j hj]
theorem vOk.pass {M : Nat} {a : pb_Vg} (h : vOk M a) (hM : 100 ≤ M) : vOk (M + 6) (vPass a) ∧ (∀ j, (j < 2 ∨ (7 ≤ j ∧ j < 32) ∨ (37 ≤ j ∧ j < 42)) → vPass a j = a j) := by
  have hB := h.1.2
  obtain ⟨h1, h2⟩ := vOk.passIt (vB a) 0 M a (by omega) hM h
  have d := h.2.2.2 2 (by omega)
  refine ⟨?_, fun j hj => ?_⟩
  · refine (h1.mono (by omega)).uF (by omega) ?_
    rw [h2 2 (by omega)]
    omega
  · unfold vPass
    simp only
    rw [pb_u_ne (by omega), h2 j (by omega)]
section CV
variable {μ : pb_M} {h : Nat}
theorem c_passL : ∀ (c b n M : Nat) (f : Nat → Int32) (z : pb_Vg), b + c = vB z → c < n → 100 ≤ M → M + c ≤ 900000 → pb_CR f 0 z → vOk M z → ∃ f', pX5_passDay_L2 h n (nI b) (pb_sA μ (h + 1) f) = some ((), pb_sA μ (h + 1) f') ∧ pb_CR f' 0 ((fun z : pb_Vg => pb_u z 2 (z 2 + 1)) (pb_it (fun b z => vPassB z b) c b z))
  | _, _, 0, _, _, _, _, hn, _, _, _, _ => by omega
  | 0, b, n + 1, M, f, z, hb, _, hM, hM2, hc, hz => by
    have hc' : pb_CR ((pb_sA μ (h + 1) f).1 (h + 1)) 0 z := by rw [pb_sA_eq]; exact hc
    have hB := hz.1.2
    refine ⟨upd f 2 (nI (z 2 + 1)), ?_, hc.upd (by rw [pb_e_lo (by omega)]; rfl)⟩
    simp (disch := omega) only [pX5_passDay_L2, c_beasts hc', lz, q_add, q_in, q_cl, q_eq, q_lt, q_le, q_9, q_b10, q_b01, Nat.one_ne_zero, eq_self, if_true, if_false, pb_b_some, show b = vB z by omega, Nat.le_refl, pb_sA_sA, pb_sA_eq, hc.lo]
  | c + 1, b, n + 1, M, f, z, hb, hn, hM, hM2, hc, hz => by
    have hc' : pb_CR ((pb_sA μ (h + 1) f).1 (h + 1)) 0 z := by rw [pb_sA_eq]; exact hc
    have hB := hz.1.2
    have hP := hz.1.1
    have hs : vS z := hz.s (by omega)
    have h1 := hz.2.1 b (by omega)
    obtain ⟨k1, k2⟩ := hz.passB (b := b) (by omega) hM
    have e1 : vB (vPassB z b) = vB z := k2 1 (by omega)
    show ∃ f', pX5_passDay_L2 h (n + 1) (nI b) (pb_sA μ (h + 1) f) = some ((), pb_sA μ (h + 1) f') ∧ pb_CR f' 0 ((fun z : pb_Vg => pb_u z 2 (z 2 + 1)) (pb_it (fun b z => vPassB z b) c (b + 1) (vPassB z b)))
    simp (disch := omega) only [pX5_passDay_L2, c_beasts hc', c_shut hc' hs (show b < 5 by omega), lz, q_add, q_in, q_cl, q_eq, q_lt, q_le, q_9, q_b10, q_b01, Nat.one_ne_zero, eq_self, if_true, if_false, pb_b_some]
    rw [if_neg (by omega)]
    by_cases e : z (42 + b) = 0
    · rw [if_pos e]
      have e2 : vPassB z b = z := by unfold vPassB; rw [if_pos e]
      rw [e2]
      exact c_passL c (b + 1) n M f z (by omega) (by omega) hM (by omega) hc hz
    · rw [if_neg e]
      have e2 : vPassB z b = vFeed z b := by unfold vPassB; rw [if_neg e]
      obtain ⟨f1, g1, g2⟩ := c_feed hc' hs (show b < 5 by omega) (by omega)
      rw [pb_sA_sA] at g1
      simp only [g1, pb_b_some]
      rw [e2] at k1 e1 ⊢
      exact c_passL c (b + 1) n (M + 1) f1 (vFeed z b) (by omega) (by omega) (by omega) (by omega) g2 k1
theorem c_pass {a : pb_Vg} {M : Nat} (hc : pb_CR (μ.1 (h + 1)) 0 a) (hz : vOk M a) (hM : 100 ≤ M) (hM2 : M ≤ 800000) : ∃ f, pX5_passDay h μ = some ((), pb_sA μ (h + 1) f) ∧ pb_CR f 0 (vPass a) := by
  have hB := hz.1.2
  have := c_passL (μ := μ) (h := h) (vB a) 0 pb_F M (μ.1 (h + 1)) a (by omega) (pb_Fgt (by omega)) hM (by omega) hc hz
  rw [pb_sA_self] at this
  exact this
theorem c_run {a : pb_Vg} {M : Nat} (hc : pb_CR (μ.1 (h + 1)) 0 a) (hz : vOk M a) (hM2 : M ≤ 900000) {b : Nat} (hb : b < vB a) (hh : a (42 + b) ≠ 0) : ∃ f, pX5_runHome h (nI b) μ = some ((), pb_sA μ (h + 1) f) ∧ pb_CR f 0 (vRun a b) := by
  have hB := hz.1.2
  have hP := hz.1.1
  have h1 := hz.2.1 b hb
  obtain ⟨k, hk⟩ : ∃ k, a (42 + b) = k + 1 := ⟨a (42 + b) - 1, by omega⟩
  have hd : vDebt a (a (27 + b)) k < 1000000 := by have := (hz.2.2.1 (a (27 + b)) k (by omega) (by omega)).1; omega
  obtain ⟨f1, g1, g2⟩ := c_add hc (i := a (27 + b)) (j := k) (x := 3) (by omega) (by omega) (by omega) hd
  have hc1 : pb_CR ((pb_sA μ (h + 1) f1).1 (h + 1)) 0 (vAdd a (a (27 + b)) k 3) := by rw [pb_sA_eq]; exact g2
  obtain ⟨f2, g3, g4⟩ := c_home hc1 (b := b) (by omega)
  rw [pb_sA_sA] at g3
  refine ⟨f2, ?_, ?_⟩
  · simp (disch := omega) only [pX5_runHome, c_own hc (show b < 5 by omega), c_hol hc (show b < 5 by omega), hk, pb_e_s, pb_b_some, lz, g1, g3]
  · unfold vRun
    rw [hk]
    exact g4
theorem c_keep {a : pb_Vg} {M : Nat} (hc : pb_CR (μ.1 (h + 1)) 0 a) (hz : vOk M a) (hM2 : M ≤ 900000) {b : Nat} (hb : b < vB a) (hh : a (42 + b) ≠ 0) : ∃ f, pX5_handOver h (nI b) μ = some ((), pb_sA μ (h + 1) f) ∧ pb_CR f 0 (vKeep a b) := by
  have hB := hz.1.2
  have hP := hz.1.1
  have h1 := hz.2.1 b hb
  have h2 := hz.2.2.2 (32 + b) (by omega)
  obtain ⟨k, hk⟩ : ∃ k, a (42 + b) = k + 1 := ⟨a (42 + b) - 1, by omega⟩
  have hd : vDebt a (a (27 + b)) k < 1000000 := by have := (hz.2.2.1 (a (27 + b)) k (by omega) (by omega)).1; omega
  obtain ⟨f1, g1, g2⟩ := c_less hc (i := a (27 + b)) (j := k) (x := a (32 + b)) (by omega) (by omega) (by omega) hd
  have hc1 : pb_CR (upd f1 (27 + b) (nI k)) 0 (pb_u (vLess a (a (27 + b)) k (a (32 + b))) (27 + b) k) := g2.upd (by rw [pb_e_lo (by omega)])
  have hc1' : pb_CR ((pb_sA μ (h + 1) (upd f1 (27 + b) (nI k))).1 (h + 1)) 0 (pb_u (vLess a (a (27 + b)) k (a (32 + b))) (27 + b) k) := by rw [pb_sA_eq]; exact hc1
  obtain ⟨f2, g3, g4⟩ := c_home hc1' (b := b) (by omega)
  rw [pb_sA_sA] at g3
  refine ⟨f2, ?_, ?_⟩
  · simp (disch := omega) only [pX5_handOver, c_own hc (show b < 5 by omega), c_hol hc (show b < 5 by omega), c_wor hc (show b < 5 by omega), hk, pb_e_s, lz, q_add, q_in, q_cl, q_eq, q_lt, q_le, q_9, q_b10, q_b01, Nat.one_ne_zero, eq_self, if_true, if_false, pb_b_some, g1, g3, pb_sA_sA, pb_sA_eq]
  · unfold vKeep
    rw [hk]
    exact g4
def vSendB (p o b : Nat) (z : pb_Vg) : pb_Vg := if z (27 + b) = p ∧ z (42 + b) = o + 1 then vHome z b else z
theorem vSendB_lo {p o b j : Nat} {z : pb_Vg} (hb : b < 5) (hj : j < 42) : vSendB p o b z j = z j := by
  unfold vSendB vHome
  split
  · rw [pb_u_ne (by omega), pb_u_ne (by omega)]
  · rfl
theorem vOk.sendB {M : Nat} {z : pb_Vg} (hz : vOk M z) {p o b : Nat} (hb : b < vB z) (hM : 100 ≤ M) : vOk M (vSendB p o b z) := by
  unfold vSendB
  split
  · exact hz.home hb hM
  · exact hz
theorem vOk.sendIt {p o : Nat} : ∀ (c b M : Nat) (z : pb_Vg), b + c ≤ vB z → vB z ≤ 5 → 100 ≤ M → vOk M z → vOk M (pb_it (vSendB p o) c b z) ∧ ∀ j, j < 42 → pb_it (vSendB p o) c b z j = z j
  | 0, _, _, _, _, _, _, h => ⟨h, fun _ _ => rfl⟩
  | c + 1, b, M, z, hb, h5, hM, h => by
    have e : vB (vSendB p o b z) = vB z := vSendB_lo (by omega) (by omega)
    obtain ⟨h3, h4⟩ := vOk.sendIt (p := p) (o := o) c (b + 1) M (vSendB p o b z) (by omega) (by omega) hM (h.sendB (by omega) hM)
    refine ⟨h3, fun j hj => ?_⟩
    show pb_it (vSendB p o) c (b + 1) (vSendB p o b z) j = z j
    rw [h4 j hj, vSendB_lo (by omega) hj]
theorem c_sendL {p o : Nat} (hp : p < 4) (ho : o < 4) : ∀ (c b n M : Nat) (f : Nat → Int32) (z : pb_Vg), b + c = vB z → c < n → 100 ≤ M → M ≤ 900000 → pb_CR f 0 z → vOk M z → ∃ f', pX5_sendHome_L2 h (nI p) (nI o) n (nI b) (pb_sA μ (h + 1) f) = some ((), pb_sA μ (h + 1) f') ∧ pb_CR f' 0 (pb_it (vSendB p o) c b z)
  | _, _, 0, _, _, _, _, hn, _, _, _, _ => by omega
  | 0, b, n + 1, M, f, z, hb, _, hM, hM2, hc, hz => by
    have hc' : pb_CR ((pb_sA μ (h + 1) f).1 (h + 1)) 0 z := by rw [pb_sA_eq]; exact hc
    have hB := hz.1.2
    refine ⟨f, ?_, hc⟩
    simp (disch := omega) only [pX5_sendHome_L2, c_beasts hc', lz, q_add, q_in, q_cl, q_eq, q_lt, q_le, q_9, q_b10, q_b01, Nat.one_ne_zero, eq_self, if_true, if_false, pb_b_some, show b = vB z by omega, Nat.le_refl]
  | c + 1, b, n + 1, M, f, z, hb, hn, hM, hM2, hc, hz => by
    have hc' : pb_CR ((pb_sA μ (h + 1) f).1 (h + 1)) 0 z := by rw [pb_sA_eq]; exact hc
    have hB := hz.1.2
    have hP := hz.1.1
    have h1 := hz.2.1 b (by omega)
    have e1 : vB (vSendB p o b z) = vB z := vSendB_lo (by omega) (by omega)
    have hz1 := hz.sendB (p := p) (o := o) (b := b) (by omega) hM
    show ∃ f', pX5_sendHome_L2 h (nI p) (nI o) (n + 1) (nI b) (pb_sA μ (h + 1) f) = some ((), pb_sA μ (h + 1) f') ∧ pb_CR f' 0 (pb_it (vSendB p o) c (b + 1) (vSendB p o b z))
    simp (disch := omega) only [pX5_sendHome_L2, c_beasts hc', c_own hc' (show b < 5 by omega), c_hol hc' (show b < 5 by omega), lz, q_add, q_in, q_cl, q_eq, q_lt, q_le, q_9, q_b10, q_b01, Nat.one_ne_zero, eq_self, if_true, if_false, pb_b_some]
    rw [if_neg (by omega)]
    by_cases e : z (27 + b) = p
    · rw [if_pos e]
      have q : (pb_e (42 + b) (z (42 + b)) = nI o) = (z (42 + b) = o + 1) := by
        cases hx : z (42 + b) with
        | zero =>
          rw [pb_e_0 (by omega)]
          exact propext ⟨fun z => absurd z.symm (nI_ne9 (by omega)), fun z => by omega⟩
        | succ k =>
          rw [pb_e_s (by omega), q_eq (by omega) (by omega)]
          simp
      simp only [q]
      by_cases e2 : z (42 + b) = o + 1
      · have e3 : vSendB p o b z = vHome z b := by unfold vSendB; rw [if_pos ⟨e, e2⟩]
        obtain ⟨f1, g1, g2⟩ := c_home hc' (b := b) (by omega)
        rw [pb_sA_sA] at g1
        rw [if_pos e2]
        simp only [g1, pb_b_some]
        rw [e3] at e1 hz1 ⊢
        exact c_sendL hp ho c (b + 1) n M f1 (vHome z b) (by omega) (by omega) hM hM2 g2 hz1
      · have e3 : vSendB p o b z = z := by unfold vSendB; rw [if_neg (fun q => e2 q.2)]
        rw [if_neg e2, e3]
        exact c_sendL hp ho c (b + 1) n M f z (by omega) (by omega) hM hM2 hc hz
    · have e3 : vSendB p o b z = z := by unfold vSendB; rw [if_neg (fun q => e q.1)]
      rw [if_neg e, e3]
      exact c_sendL hp ho c (b + 1) n M f z (by omega) (by omega) hM hM2 hc hz
theorem vOk.pay0 {M : Nat} {a : pb_Vg} (hz : vOk M a) {p o n : Nat} (hp : p < vP a) (ho : o < vP a) (hne : p ≠ o) (hn : n ≤ 9) (hM : 100 ≤ M) : vOk (M + 9) (vPay0 a p o n) ∧ (∀ j, (j < 7 ∨ 27 ≤ j) → vPay0 a p o n j = a j) := by
  have hP := hz.1.1
  have d1 := hz.2.2.2 (7 + p) (by omega)
  have d2 := hz.2.2.2 (7 + o) (by omega)
  have h1 : vOk (M + 9) (pb_u a (7 + p) (a (7 + p) - n)) := (hz.mono (by omega)).uF (by omega) (by omega)
  have h2 : vOk (M + 9) (pb_u (pb_u a (7 + p) (a (7 + p) - n)) (7 + o) (pb_u a (7 + p) (a (7 + p) - n) (7 + o) + n)) := h1.uF (by omega) (by rw [pb_u_ne (by omega)]; omega)
  refine ⟨?_, fun j hj => ?_⟩
  · unfold vPay0
    refine h2.less ?_ ?_ hne (by omega)
    · show p < pb_u _ _ _ 0
      rw [pb_u_ne (by omega), pb_u_ne (by omega)]
      exact hp
    · show o < pb_u _ _ _ 0
      rw [pb_u_ne (by omega), pb_u_ne (by omega)]
      exact ho
  · unfold vPay0 vLess
    rw [pb_u_ne (by omega), pb_u_ne (by omega), pb_u_ne (by omega)]
theorem vOk.pay {M : Nat} {a : pb_Vg} (hz : vOk M a) {p o n : Nat} (hp : p < vP a) (ho : o < vP a) (hne : p ≠ o) (hn : n ≤ 9) (hM : 100 ≤ M) : vOk (M + 9) (vPay a p o n) ∧ (∀ j, (j < 7 ∨ (27 ≤ j ∧ j < 42)) → vPay a p o n j = a j) := by
  obtain ⟨h1, h2⟩ := hz.pay0 (n := n) hp ho hne hn hM
  unfold vPay
  split
  · obtain ⟨h3, h4⟩ := vOk.sendIt (p := p) (o := o) (vB (vPay0 a p o n)) 0 (M + 9) (vPay0 a p o n) (by omega) h1.1.2 (by omega) h1
    exact ⟨h3, fun j hj => by
      show pb_it (vSendB p o) _ _ _ j = _
      rw [h4 j (by omega), h2 j (by omega)]⟩
  · exact ⟨h1, fun j hj => h2 j (by omega)⟩
theorem c_pay {a : pb_Vg} {M : Nat} (hc : pb_CR (μ.1 (h + 1)) 0 a) (hz : vOk M a) (hM : 100 ≤ M) (hM2 : M ≤ 800000) {p o n : Nat} (hp : p < vP a) (ho : o < vP a) (hne : p ≠ o) (hn : n ≤ 9) (hm : n ≤ a (7 + p)) : ∃ f, pX5_payDebt h (nI p) (nI o) (nI n) μ = some ((), pb_sA μ (h + 1) f) ∧ pb_CR f 0 (vPay a p o n) := by
  have hP := hz.1.1
  have hB := hz.1.2
  obtain ⟨k1, k2⟩ := hz.pay0 (n := n) hp ho hne hn hM
  have d1 := hz.2.2.2 (7 + p) (by omega)
  have d2 := hz.2.2.2 (7 + o) (by omega)
  have hc1 : pb_CR (upd (μ.1 (h + 1)) (7 + p) (nI (a (7 + p) - n))) 0 (pb_u a (7 + p) (a (7 + p) - n)) := hc.upd (by rw [pb_e_lo (by omega)])
  have hc2 : pb_CR (upd (upd (μ.1 (h + 1)) (7 + p) (nI (a (7 + p) - n))) (7 + o) (nI (pb_u a (7 + p) (a (7 + p) - n) (7 + o) + n))) 0 (pb_u (pb_u a (7 + p) (a (7 + p) - n)) (7 + o) (pb_u a (7 + p) (a (7 + p) - n) (7 + o) + n)) := hc1.upd (by rw [pb_e_lo (by omega)])
  have hc2' : pb_CR ((pb_sA μ (h + 1) (upd (upd (μ.1 (h + 1)) (7 + p) (nI (a (7 + p) - n))) (7 + o) (nI (pb_u a (7 + p) (a (7 + p) - n) (7 + o) + n)))).1 (h + 1)) 0 (pb_u (pb_u a (7 + p) (a (7 + p) - n)) (7 + o) (pb_u a (7 + p) (a (7 + p) - n) (7 + o) + n)) := by rw [pb_sA_eq]; exact hc2
  have e0 : vDebt (pb_u (pb_u a (7 + p) (a (7 + p) - n)) (7 + o) (pb_u a (7 + p) (a (7 + p) - n) (7 + o) + n)) p o = vDebt a p o := by
    unfold vDebt
    rw [pb_u_ne (by omega), pb_u_ne (by omega)]
  have hd := (hz.2.2.1 p o (by omega) (by omega)).1
  obtain ⟨f3, g1, g2⟩ := c_less hc2' (i := p) (j := o) (x := n) (by omega) (by omega) (by omega) (by omega)
  rw [pb_sA_sA] at g1
  have g2' : pb_CR f3 0 (vPay0 a p o n) := g2
  have hc3 : pb_CR ((pb_sA μ (h + 1) f3).1 (h + 1)) 0 (vPay0 a p o n) := by rw [pb_sA_eq]; exact g2
  have e5 : upd (μ.1 (h + 1)) (7 + p) (nI (a (7 + p) - n)) (7 + o) = nI (pb_u a (7 + p) (a (7 + p) - n) (7 + o)) := hc1.lo (by omega)
  have hd3 : vDebt (vPay0 a p o n) p o < 1000000 := by have := (k1.2.2.1 p o (by omega) (by omega)).1; omega
  simp (disch := omega) only [pX5_payDebt, lz, q_add, q_in, q_cl, q_eq, q_lt, q_le, q_9, q_b10, q_b01, Nat.one_ne_zero, eq_self, if_true, if_false, pb_b_some, hc.lo, q_sub, pb_sA_sA, pb_sA_eq, e5, g1, c_debt hc3 (show p < 4 by omega) (show o < 4 by omega)]
  unfold vPay
  by_cases e : vDebt (vPay0 a p o n) p o = 0
  · rw [if_pos e, if_pos e]
    have eB : vB (vPay0 a p o n) = vB a := k2 1 (by omega)
    obtain ⟨f4, g3, g4⟩ := c_sendL (μ := μ) (h := h) (p := p) (o := o) (by omega) (by omega) (vB (vPay0 a p o n)) 0 pb_F (M + 9) f3 (vPay0 a p o n) (by omega) (pb_Fgt (by omega)) (by omega) (by omega) g2' k1
    refine ⟨f4, ?_, g4⟩
    unfold pX5_sendHome
    rw [lz, g3, pb_b_some]
  · rw [if_neg e, if_neg e]
    exact ⟨f3, rfl, g2'⟩
end CV
