section READ7
variable {K : Nat} {S : pb_S} {z : pb_Vg} {M : Nat} {t : Nat → Nat} {L p : Nat}
def RZ (μ : pb_M) (z : pb_Vg) : Prop := (μ.1 19 6 = nI (vP z) ∧ μ.1 19 7 = nI (vB z)) ∧ pb_MR (μ.1 22) 0 z ∧ ∀ b, b < vB z → μ.1 23 b = nI (z (37 + b))
theorem m_readL (hL : L ≤ 56) (h255 : ∀ j, j < L → t j ≤ 255) : ∀ (c p n : Nat) (μ : pb_M) (z : pb_Vg), L ≤ p + c → p ≤ 60 → c < n → RD μ t L z p → PI z → ∃ μ1, pX7_readText_L67 n μ = some (rsE (rdT t L c p z), μ1) ∧ (∀ z', rdT t L c p z = .inr z' → RZ μ1 z') ∧ GR μ μ1
  | _, _, 0, _, _, _, _, hn, _, _ => by omega
  | 0, p, n + 1, μ, z, hLp, hp, _, h, hz => by
    refine ⟨μ, ?_, fun z' hq => ?_, GR.rf⟩
    · rw [pX7_readText_L67, if_pos h.1.2.2.1, h.1.1.1, h.1.2.1, if_pos ((nI_leI (by omega) (by omega)).mpr (by omega)), h.1.2.2.1]
      rfl
    · unfold rdT at hq
      cases hq
      exact h.2
  | c + 1, p, n + 1, μ, z, hLp, hp, hn, h, hz => by
    unfold rdT
    by_cases e : L ≤ p
    · rw [if_pos e]
      refine ⟨μ, ?_, fun z' hq => ?_, GR.rf⟩
      · rw [pX7_readText_L67, if_pos h.1.2.2.1, h.1.1.1, h.1.2.1, if_pos ((nI_leI (by omega) (by omega)).mpr e), h.1.2.2.1]
        rfl
      · cases hq
        exact h.2
    · rw [if_neg e]
      obtain ⟨μ1, g1, g2, g3, g4⟩ := m_part h hz hL h255 (show p < L by omega)
      have hw : fw (t p) ≤ 3 := by unfold fw; split <;> omega
      have hst : pX7_readText_L67 (n + 1) μ = pX7_readText_L67 n μ1 := by
        rw [pX7_readText_L67, if_pos h.1.2.2.1, h.1.1.1, h.1.2.1, if_neg (fun y => e ((nI_leI (by omega) (by omega)).mp y)), if_pos (q_in (by omega) (by omega)), q_cl (by omega), h.1.1.2 p (by omega), g1, pb_b_some]
      rw [hst]
      cases hfl : flt t L z p with
      | some q =>
        obtain ⟨k1, k2⟩ := g3 q hfl
        refine ⟨μ1, ?_, (fun z' hq => by cases hq), g2⟩
        cases n with
        | zero => omega
        | succ n =>
          rw [pX7_readText_L67, k1, if_neg (ne9 k2)]
          rfl
      | none =>
        obtain ⟨μ2, m1, m2, m3⟩ := m_readL hL h255 c (p + 1 + fw (t p)) n μ1 (telT t z p) (by omega) (by omega) (by omega) (g4 hfl) (telT_PI hz hfl)
        exact ⟨μ2, m1, m2, g2.tr m3⟩
theorem m_read {μ : pb_M} (ht : pb_TM μ t L) (hL : L ≤ 56) (h255 : ∀ j, j < L → t j ≤ 255) : ∃ μ1, pX7_readText μ = some (rsE (rdA t L), μ1) ∧ (∀ z', rdA t L = .inr z' → RZ μ1 z') ∧ GR μ μ1 := by
  unfold pX7_readText
  simp only [pb_sA_sA, pb_sA_eq]
  generalize hr : upd (upd (upd (upd (μ.1 19) 10 (0 : Int32)) 11 (-9 : Int32)) 6 (0 : Int32)) 7 (0 : Int32) = r19
  have gr1 : GR μ (pb_sA μ 19 r19) := by
    refine ⟨fun h h1 _ _ => pb_sA_ne h1, fun j h1 h2 h3 h4 => ?_, rfl⟩
    rw [pb_sA_eq, ← hr, upd_ne h2, upd_ne h1, upd_ne h4, upd_ne h3]
  have hz22 : ∀ Kc : pb_M → Option (Int32 × pb_M), ∃ r, pX7_readText_L23 Kc pb_F (nI 0) (pb_sA μ 19 r19) = Kc (pb_sA (pb_sA μ 19 r19) 22 r) ∧ ∀ k, k < 45 → r k = 0 := fun Kc => by
    have h := lp_copy (fun n b r => pX7_readText_L23 Kc n (nI b) (pb_sA (pb_sA μ 19 r19) 22 r)) (fun r => Kc (pb_sA (pb_sA μ 19 r19) 22 r)) (fun _ => (0 : Int32)) 0 45 ((pb_sA μ 19 r19).1 22) (fun n r _ => by
      rw [pX7_readText_L23, if_pos (show (45 : Int32) ≤ nI 45 from by decide)]) (fun n b r hb _ => by
      rw [pX7_readText_L23, if_neg (show ¬ (45 : Int32) ≤ nI b from fun y => (show ¬ 45 ≤ b by omega) ((nI_leI (a := 45) (by omega) (by omega)).mp y)), if_pos (q_in (by omega) (by omega)), q_cl (by omega), pb_sA_sA, pb_sA_eq, show nI b + (1 : Int32) = nI (b + 1) from nI_add b 1, Nat.zero_add]) pb_F (pb_Fgt (by omega))
    obtain ⟨r, g1, g2, -⟩ := h
    rw [pb_sA_self] at g1
    exact ⟨r, g1, fun k hk => by have := g2 k hk; rwa [Nat.zero_add] at this⟩
  obtain ⟨r, g1, g2⟩ := hz22 (fun μk42 =>
    if (μk42.1 19 9) = (0 : Int32) then
      some ((0 : Int32), μk42)
    else
    if (μk42.1 24 0) = (86 : Int32) then
      pX7_readText_L67 pb_F (pb_sA μk42 19 (upd (μk42.1 19) 10 (1 : Int32)))
    else
    some ((0 : Int32), μk42))
  have gr2 : GR μ (pb_sA (pb_sA μ 19 r19) 22 r) := gr1.tr GR.s22
  have ht2 := TM_gr ht gr2
  have hmain : ∃ μ1, (if (pb_sA (pb_sA μ 19 r19) 22 r).1 19 9 = (0 : Int32) then
      some ((0 : Int32), pb_sA (pb_sA μ 19 r19) 22 r)
    else
    if (pb_sA (pb_sA μ 19 r19) 22 r).1 24 0 = (86 : Int32) then
      pX7_readText_L67 pb_F (pb_sA (pb_sA (pb_sA μ 19 r19) 22 r) 19 (upd ((pb_sA (pb_sA μ 19 r19) 22 r).1 19) 10 (1 : Int32)))
    else
    some ((0 : Int32), pb_sA (pb_sA μ 19 r19) 22 r)) = some (rsE (rdA t L), μ1) ∧ (∀ z', rdA t L = .inr z' → RZ μ1 z') ∧ GR μ μ1 := by
    unfold rdA
    rw [ht2.1]
    by_cases e : L = 0
    · rw [if_pos (show nI L = (0 : Int32) by rw [e]; rfl), if_pos (Or.inl e)]
      exact ⟨_, rfl, (fun z' h => by cases h), gr2⟩
    · have hx := h255 0 (by omega)
      rw [if_neg (show ¬ nI L = (0 : Int32) from fun q => e ((nI_eq (b := 0) (by omega) (by omega)).mp q)), ht2.2 0 (by omega)]
      by_cases e2 : t 0 = 86
      · rw [if_pos (show nI (t 0) = (86 : Int32) by rw [e2]; rfl), if_neg (fun q => by rcases q with q | q; exact e q; exact q e2)]
        have gr3 : GR μ (pb_sA (pb_sA (pb_sA μ 19 r19) 22 r) 19 (upd ((pb_sA (pb_sA μ 19 r19) 22 r).1 19) 10 (1 : Int32))) := gr2.tr (GR.s19 (by omega))
        have e19 : (pb_sA (pb_sA μ 19 r19) 22 r).1 19 = r19 := by rw [pb_sA_ne (by decide), pb_sA_eq]
        obtain ⟨μ1, k1, k2, k3⟩ := m_readL hL h255 56 1 pb_F (pb_sA (pb_sA (pb_sA μ 19 r19) 22 r) 19 (upd ((pb_sA (pb_sA μ 19 r19) 22 r).1 19) 10 (1 : Int32))) z0 (by omega) (by omega) (pb_Fgt (by omega)) ⟨⟨TM_gr ht gr3, ⟨by rw [pb_sA_eq, upd_eq]; rfl, by rw [pb_sA_eq, upd_ne (by decide), e19, ← hr, upd_ne (by decide), upd_ne (by decide), upd_eq], by omega⟩⟩, ⟨by rw [pb_sA_eq, upd_ne (by decide), e19, ← hr, upd_ne (by decide), upd_eq]; rfl, by rw [pb_sA_eq, upd_ne (by decide), e19, ← hr, upd_eq]; rfl⟩, (by
          intro j hj
          rw [pb_sA_ne (by decide), pb_sA_eq, Nat.zero_add, g2 j hj]
          unfold z0 pb_e
          by_cases q : 42 ≤ pb_pi j ∧ pb_pi j < 47
          · rw [if_pos q, if_pos q]
            rfl
          · rw [if_neg q, if_neg q]
            rfl), fun b hb => absurd (show b < 0 from hb) (Nat.not_lt_zero _)⟩ z0_PI
        exact ⟨μ1, k1, k2, gr3.tr k3⟩
      · rw [if_neg (show ¬ nI (t 0) = (86 : Int32) from fun q => e2 ((nI_eq (b := 86) (by omega) (by omega)).mp q)), if_pos (Or.inr e2)]
        exact ⟨_, rfl, (fun z' h => by cases h), gr2⟩
  obtain ⟨μ1, k1, k2, k3⟩ := hmain
  exact ⟨μ1, g1.trans k1, k2, k3⟩
theorem op_fault (hA : InvA K S) (hK : K + 1 ≤ 64) : pOp K S pX6_fault pX7_fault := by
  refine pOp.read hA hK (rsE (rdA S.2.2.1 S.2.1)) (pC.read fun μ hC => ?_) (pM.read fun μ hM => ?_)
  · obtain ⟨μ1, g1, -, g3, g4⟩ := c_read (t := S.2.2.1) (L := S.2.1) hC.2.1 hA.2.1.1 hA.2.1.2
    refine ⟨μ1, ?_, g3, g4⟩
    unfold pX6_fault
    rw [g1, pb_b_some]
  · obtain ⟨μ1, g1, -, g3⟩ := m_read (t := S.2.2.1) (L := S.2.1) hM.2.1 hA.2.1.1 hA.2.1.2
    refine ⟨μ1, ?_, g3.ag, g3.fr⟩
    unfold pX7_fault
    rw [g1, pb_b_some]
def pb_newS (S : pb_S) (v : pb_Vg) : pb_S := (v, S.2.1, S.2.2.1, 0, S.2.2.2.2.1, (fun _ => none), S.2.2.2.2.2.2)
theorem c_back {μ : pb_M} {a : pb_Vg} (hc : pb_CR (μ.1 7) 0 a) : ∃ f, pX5_copyFrom 4 6 μ = some ((), pb_sA μ 5 f) ∧ pb_CR f 0 a := by
  refine ⟨va_cpy (μ.1 7) (μ.1 5) 0 0 52, ?_, CR_cpy hc⟩
  unfold pX5_copyFrom
  rw [show (0 : Int32) = nI 0 from rfl, show (52 : Int32) = nI 52 from rfl, q_cp (by omega) (by omega) (by omega) (by omega), if_pos rfl, q_cl (by omega), q_cl (by omega)]
theorem op_village (hA : InvA K S) (hK : K + 1 ≤ 64) : pOp K S pX6_village pX7_village := by
  have hL := hA.2.1.1
  cases e : rdA S.2.2.1 S.2.1 with
  | inl q =>
    have hq : q ≤ 60 := by
      unfold rdA at e
      split at e
      · cases e; omega
      · exact rdT_le hL 56 1 z0 (by omega) e
    refine pOp.read hA hK (-3) (pC.read fun μ hC => ?_) (pM.read fun μ hM => ?_)
    · obtain ⟨μ1, g1, -, g3, g4⟩ := c_read (t := S.2.2.1) (L := S.2.1) hC.2.1 hL hA.2.1.2
      refine ⟨μ1, ?_, g3, g4⟩
      unfold pX6_village
      rw [g1, pb_b_some, e, if_neg (show ¬ rsE (.inl q) = (-9 : Int32) from ne9 hq)]
    · obtain ⟨μ1, g1, -, g3⟩ := m_read (t := S.2.2.1) (L := S.2.1) hM.2.1 hL hA.2.1.2
      refine ⟨μ1, ?_, g3.ag, g3.fr⟩
      unfold pX7_village
      rw [g1, pb_b_some, e, if_neg (show ¬ rsE (.inl q) = (-9 : Int32) from ne9 hq)]
  | inr z =>
    have hz : PI z := by
      unfold rdA at e
      split at e
      · cases e
      · exact rdT_PI 56 1 z0 z z0_PI e
    have hP := hz.1.1.1
    have hB := hz.1.1.2
    refine ⟨nI (10 * vP z + vB z), pb_newS S z, fun μ hC => ?_, fun μ hM => ?_, ⟨⟨hz.1.mono (by omega), hK⟩, hA.2.1, ⟨by show 0 ≤ 14; omega, fun j hj => absurd (show j < 0 from hj) (Nat.not_lt_zero _)⟩, fun s _ v hv => by cases hv⟩⟩
    · obtain ⟨μ1, g1, g2, g3, g4⟩ := c_read (t := S.2.2.1) (L := S.2.1) hC.2.1 hL hA.2.1.2
      obtain ⟨f, k1, k2⟩ := c_back (g2 z e)
      have hC1 := hC.ag g3
      have e8 : (pb_sA μ1 5 f).1 8 = μ1.1 8 := pb_sA_ne (by decide)
      refine ⟨pb_sA (pb_sA (pb_sA μ1 5 f) 8 (upd (upd (μ1.1 8) 1 (0 : Int32)) 2 (0 : Int32))) 0 (upd (μ1.1 0) 9 (0 : Int32)), ?_, ?_, ?_⟩
      · have hc4 : pb_CR ((pb_sA (pb_sA (pb_sA μ1 5 f) 8 (upd (upd (μ1.1 8) 1 (0 : Int32)) 2 (0 : Int32))) 0 (upd (μ1.1 0) 9 (0 : Int32))).1 (4 + 1)) 0 z := by
          rw [pb_sA_ne (by decide), pb_sA_ne (by decide), show (4 + 1 : Nat) = 5 from rfl, pb_sA_eq]
          exact k2
        unfold pX6_village pX0_clear
        rw [g1, pb_b_some, e, if_pos (show rsE (.inr z) = (-9 : Int32) from rfl), k1, pb_b_some, pb_b_some, pb_sA_sA, pb_sA_eq, e8, pb_sA_ne (show (0 : Nat) ≠ 8 by decide), pb_sA_ne (show (0 : Nat) ≠ 5 by decide), c_people hc4, pb_b_some, c_beasts hc4, pb_b_some, show (10 : Int32) * nI (vP z) = nI (10 * vP z) from pk_mul 10 _, nI_add]
      · refine ⟨?_, ?_, ⟨0, by omega, ?_, ?_, fun j hj => absurd (show j < 0 from hj) (Nat.not_lt_zero _)⟩, ⟨?_, fun s _ v hv => by cases hv⟩, ?_⟩
        · rw [pb_sA_ne (by decide), pb_sA_ne (by decide), pb_sA_eq]
          exact k2
        · rw [pb_sA_ne (by decide), pb_sA_ne (by decide), pb_sA_ne (by decide), pb_sA_ne (by decide), pb_sA_ne (by decide), pb_sA_ne (by decide)]
          exact hC1.2.1
        · rw [pb_sA_ne (by decide), pb_sA_eq, upd_ne (by decide), upd_eq]
          rfl
        · rw [pb_sA_ne (by decide), pb_sA_eq, upd_eq]
          rfl
        · rw [pb_sA_eq, upd_eq]
          rfl
        · exact hC1.2.2.2.2
      · exact g4.tr (((frC.sA (by omega)).tr (frC.sA (by omega))).tr (frC.sA (by omega)))
    · obtain ⟨μ1, g1, g2, g3⟩ := m_read (t := S.2.2.1) (L := S.2.1) hM.2.1 hL hA.2.1.2
      obtain ⟨⟨y1, y2⟩, y3, y4⟩ := g2 z e
      have hM1 := hM.ag g3.ag
      generalize h19 : upd (upd (μ1.1 19) 0 (nI (vP z))) 1 (nI (vB z)) = r19
      have hk20 : ∀ Kc : pb_M → Option (Int32 × pb_M), ∃ r, pX7_village_L30 Kc pb_F (nI 0) (pb_sA μ1 19 r19) = Kc (pb_sA (pb_sA μ1 19 r19) 20 r) ∧ ∀ k, k < 5 → r k = μ1.1 23 k := fun Kc => by
        have h := lp_copy (fun n b r => pX7_village_L30 Kc n (nI b) (pb_sA (pb_sA μ1 19 r19) 20 r)) (fun r => Kc (pb_sA (pb_sA μ1 19 r19) 20 r)) (fun k => μ1.1 23 k) 0 5 ((pb_sA μ1 19 r19).1 20) (fun n r _ => by
          rw [pX7_village_L30, if_pos (show (5 : Int32) ≤ nI 5 from by decide)]) (fun n b r hb _ => by
          rw [pX7_village_L30, if_neg (show ¬ (5 : Int32) ≤ nI b from fun y => (show ¬ 5 ≤ b by omega) ((nI_leI (a := 5) (by omega) (by omega)).mp y)), if_pos (q_in (by omega) (by omega)), if_pos (q_in (by omega) (by omega)), q_cl (by omega), pb_sA_sA, pb_sA_eq, pb_sA_ne (show (23 : Nat) ≠ 20 by decide), pb_sA_ne (show (23 : Nat) ≠ 19 by decide), show nI b + (1 : Int32) = nI (b + 1) from nI_add b 1, Nat.zero_add]) pb_F (pb_Fgt (by omega))
        obtain ⟨r, a1, a2, -⟩ := h
        rw [pb_sA_self] at a1
        exact ⟨r, a1, fun k hk => by have := a2 k hk; rwa [Nat.zero_add] at this⟩
      have hk21 : ∀ (r20 : Nat → Int32) (Kc : pb_M → Option (Int32 × pb_M)), ∃ r, pX7_village_L55 Kc pb_F (nI 0) (pb_sA (pb_sA μ1 19 r19) 20 r20) = Kc (pb_sA (pb_sA (pb_sA μ1 19 r19) 20 r20) 21 r) ∧ ∀ k, k < 45 → r k = μ1.1 22 k := fun r20 Kc => by
        have h := lp_copy (fun n b r => pX7_village_L55 Kc n (nI b) (pb_sA (pb_sA (pb_sA μ1 19 r19) 20 r20) 21 r)) (fun r => Kc (pb_sA (pb_sA (pb_sA μ1 19 r19) 20 r20) 21 r)) (fun k => μ1.1 22 k) 0 45 ((pb_sA (pb_sA μ1 19 r19) 20 r20).1 21) (fun n r _ => by
          rw [pX7_village_L55, if_pos (show (45 : Int32) ≤ nI 45 from by decide)]) (fun n b r hb _ => by
          rw [pX7_village_L55, if_neg (show ¬ (45 : Int32) ≤ nI b from fun y => (show ¬ 45 ≤ b by omega) ((nI_leI (a := 45) (by omega) (by omega)).mp y)), if_pos (q_in (by omega) (by omega)), if_pos (q_in (by omega) (by omega)), q_cl (by omega), pb_sA_sA, pb_sA_eq, pb_sA_ne (show (22 : Nat) ≠ 21 by decide), pb_sA_ne (show (22 : Nat) ≠ 20 by decide), pb_sA_ne (show (22 : Nat) ≠ 19 by decide), show nI b + (1 : Int32) = nI (b + 1) from nI_add b 1, Nat.zero_add]) pb_F (pb_Fgt (by omega))
        obtain ⟨r, a1, a2, -⟩ := h
        rw [pb_sA_self] at a1
        exact ⟨r, a1, fun k hk => by have := a2 k hk; rwa [Nat.zero_add] at this⟩
      have hbody : ∃ μ2, pX7_village μ = some (nI (10 * vP z + vB z), μ2) ∧ ∃ r20 r21, (∀ k, k < 5 → r20 k = μ1.1 23 k) ∧ (∀ k, k < 45 → r21 k = μ1.1 22 k) ∧ μ2 = pb_sA (pb_sA (pb_sA (pb_sA (pb_sA μ1 19 r19) 20 r20) 21 r21) 19 (upd r19 12 (0 : Int32))) 28 (upd (upd (μ1.1 28) 0 (0 : Int32)) 1 (0 : Int32)) := by
        unfold pX7_village
        rw [g1, pb_b_some, e, if_pos (show rsE (.inr z) = (-9 : Int32) from rfl), pb_sA_sA, pb_sA_eq, y1, upd_ne (show (7 : Nat) ≠ 0 by decide), y2, h19]
        obtain ⟨r20, a1, a2⟩ := hk20 _
        obtain ⟨r21, b1, b2⟩ := hk21 r20 _
        refine ⟨_, a1.trans (b1.trans ?_), r20, r21, a2, b2, rfl⟩
        have e19 : (pb_sA (pb_sA (pb_sA μ1 19 r19) 20 r20) 21 r21).1 19 = r19 := by rw [pb_sA_ne (by decide), pb_sA_ne (by decide), pb_sA_eq]
        have e28 : ∀ f, (pb_sA (pb_sA (pb_sA (pb_sA μ1 19 r19) 20 r20) 21 r21) 19 f).1 28 = μ1.1 28 := fun f => by rw [pb_sA_ne (by decide), pb_sA_ne (by decide), pb_sA_ne (by decide), pb_sA_ne (by decide)]
        rw [e19, e28, pb_sA_sA, pb_sA_eq, pb_sA_ne (show (19 : Nat) ≠ 28 by decide), pb_sA_eq, upd_ne (show (0 : Nat) ≠ 12 by decide), upd_ne (show (1 : Nat) ≠ 12 by decide), ← h19, upd_eq, upd_ne (show (0 : Nat) ≠ 1 by decide), upd_eq, show (10 : Int32) * nI (vP z) = nI (10 * vP z) from pk_mul 10 _, nI_add]
      obtain ⟨μ2, j1, r20, r21, j2, j3, j4⟩ := hbody
      refine ⟨μ2, j1, ?_, ?_⟩
      · have n0 : μ2.1 19 = upd r19 12 (0 : Int32) := by rw [j4, pb_sA_ne (by decide), pb_sA_eq]
        have n20 : μ2.1 20 = r20 := by rw [j4, pb_sA_ne (by decide), pb_sA_ne (by decide), pb_sA_ne (by decide), pb_sA_eq]
        have n21 : μ2.1 21 = r21 := by rw [j4, pb_sA_ne (by decide), pb_sA_ne (by decide), pb_sA_eq]
        have n28 : μ2.1 28 = upd (upd (μ1.1 28) 0 (0 : Int32)) 1 (0 : Int32) := by rw [j4, pb_sA_eq]
        have n24 : μ2.1 24 = μ1.1 24 := by rw [j4, pb_sA_ne (by decide), pb_sA_ne (by decide), pb_sA_ne (by decide), pb_sA_ne (by decide), pb_sA_ne (by decide)]
        have n2 : μ2.2 = μ1.2 := by rw [j4]; rfl
        refine ⟨⟨?_, fun b hb => ?_, ?_, ?_⟩, ⟨?_, ?_⟩, ?_, fun s hs => ⟨?_, fun v hv => by cases hv⟩, ?_⟩
        · rw [n21]
          exact MR_of y3 (fun k hk => by rw [show 45 * 0 + k = 0 + k by omega, Nat.zero_add]; exact j3 k hk)
        · have hb' : b < vB z := hb
          rw [n20, j2 b (by omega)]
          exact y4 b hb'
        · rw [n0, upd_ne (by decide), ← h19, upd_ne (by decide), upd_eq]
          rfl
        · rw [n0, upd_ne (by decide), ← h19, upd_eq]
          rfl
        · rw [n0, upd_ne (by decide), ← h19, upd_ne (by decide), upd_ne (by decide)]
          exact hM1.2.1.1
        · rw [n24]
          exact hM1.2.1.2
        · obtain ⟨c, c1, -, c3, -⟩ := hM1.2.2.1
          refine ⟨c, c1, ?_, ?_, fun j hj => absurd (show j < 0 from hj) (Nat.not_lt_zero _)⟩
          · rw [n0, upd_eq]
            rfl
          · rw [n0, upd_ne (by decide), ← h19, upd_ne (by decide), upd_ne (by decide)]
            exact c3
        · rw [n28]
          rcases (show s = 0 ∨ s = 1 by omega) with rfl | rfl
          · rw [upd_ne (by decide), upd_eq]
            rfl
          · rw [upd_eq]
            rfl
        · rw [n2]
          exact hM1.2.2.2.2
      · rw [j4]
        exact g3.fr.tr (((((frM.sA (by omega)).tr (frM.sA (by omega))).tr (frM.sA (by omega))).tr (frM.sA (by omega))).tr (frM.sA (by omega)))
end READ7
