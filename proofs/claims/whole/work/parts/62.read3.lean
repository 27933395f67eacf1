section READ3
variable {K : Nat} {S : pb_S} {μ : pb_M} {z : pb_Vg} {M : Nat} {t : Nat → Nat} {L p : Nat}
theorem c_addP (hc : pb_CR (μ.1 (6 + 1)) 0 z) (hP : vP z < 4) {h m : Nat} : ∃ f, pX5_addPerson 6 (nI h) (nI m) μ = some ((), pb_sA μ (6 + 1) f) ∧ pb_CR f 0 (vAP z h m) := by
  refine ⟨upd (upd (upd (μ.1 (6 + 1)) (3 + vP z) (nI h)) (7 + vP z) (nI m)) 0 (nI (vP z + 1)), ?_, ?_⟩
  · unfold pX5_addPerson
    rw [c_people hc, pb_b_some, if_pos (show nI (vP z) < (4 : Int32) from (nI_ltI (b := 4) (by omega) (by omega)).mpr hP), show (3 : Int32) + nI (vP z) = nI (3 + vP z) from nI_add 3 _, show (7 : Int32) + nI (vP z) = nI (7 + vP z) from nI_add 7 _, if_pos (q_in (by omega) (by omega)), if_pos (q_in (by omega) (by omega)), q_cl (by omega), q_cl (by omega), show nI (vP z) + (1 : Int32) = nI (vP z + 1) from nI_add _ 1]
    simp only [pb_sA_sA, pb_sA_eq]
  · unfold vAP
    exact ((hc.upd (k := 3 + vP z) (x := h) (by rw [pb_e_lo (by omega)])).upd (k := 7 + vP z) (x := m) (by rw [pb_e_lo (by omega)])).upd (k := 0) (x := vP z + 1) (by rw [pb_e_lo (by omega)])
theorem c_addB (hc : pb_CR (μ.1 (6 + 1)) 0 z) (hB : vB z < 5) {o w k : Nat} : ∃ f, pX5_addBeast 6 (nI o) (nI w) (nI k) μ = some ((), pb_sA μ (6 + 1) f) ∧ pb_CR f 0 (vAB z o w k) := by
  refine ⟨upd (upd (upd (upd (upd (μ.1 (6 + 1)) (27 + vB z) (nI o)) (32 + vB z) (nI w)) (37 + vB z) (nI k)) (42 + vB z) (-9 : Int32)) 1 (nI (vB z + 1)), ?_, ?_⟩
  · unfold pX5_addBeast
    rw [c_beasts hc, pb_b_some, if_pos (show nI (vB z) < (5 : Int32) from (nI_ltI (b := 5) (by omega) (by omega)).mpr hB), show (27 : Int32) + nI (vB z) = nI (27 + vB z) from nI_add 27 _, show (32 : Int32) + nI (vB z) = nI (32 + vB z) from nI_add 32 _, show (37 : Int32) + nI (vB z) = nI (37 + vB z) from nI_add 37 _, show (42 : Int32) + nI (vB z) = nI (42 + vB z) from nI_add 42 _, if_pos (q_in (by omega) (by omega)), if_pos (q_in (by omega) (by omega)), if_pos (q_in (by omega) (by omega)), if_pos (q_in (by omega) (by omega)), q_cl (by omega), q_cl (by omega), q_cl (by omega), q_cl (by omega), show nI (vB z) + (1 : Int32) = nI (vB z + 1) from nI_add _ 1]
    simp only [pb_sA_sA, pb_sA_eq]
  · unfold vAB
    exact ((((hc.upd (k := 27 + vB z) (x := o) (by rw [pb_e_lo (by omega)])).upd (k := 32 + vB z) (x := w) (by rw [pb_e_lo (by omega)])).upd (k := 37 + vB z) (x := k) (by rw [pb_e_lo (by omega)])).upd (k := 42 + vB z) (x := 0) (by rw [pb_e_0 (by omega)])).upd (k := 1) (x := vB z + 1) (by rw [pb_e_lo (by omega)])
theorem c_tell (hc : pb_CR (μ.1 (6 + 1)) 0 z) (hz : PI z) (h : flt t L z p = none) (hg : ∀ j, j < fw (t p) → μ.1 3 j = nI (t (p + 1 + j) - 48)) (h255 : t p ≤ 255) : ∃ f, pX4_tell 6 (nI (t p)) μ = some ((), pb_sA μ (6 + 1) f) ∧ pb_CR f 0 (telT t z p) := by
  obtain ⟨h1, h2⟩ := flt_none h
  have hP := hz.1.1.1
  have hB := hz.1.1.2
  have g0 := hg 0 (by unfold fw; split <;> omega)
  have g1 := hg 1 (by unfold fw; split <;> omega)
  have q0 := h2 0 (by unfold fw; split <;> omega)
  have q1 := h2 1 (by unfold fw; split <;> omega)
  rw [Nat.add_zero] at g0
  unfold pX4_tell telT tel
  simp only [lit (show t p < 2000000000 by omega) (show 66 < 2000000000 by omega) (show (66 : Int32) = nI 66 from rfl), lit (show t p < 2000000000 by omega) (show 80 < 2000000000 by omega) (show (80 : Int32) = nI 80 from rfl)]
  unfold bgn at h1
  by_cases e1 : t p = 66
  · have g2 := hg 2 (by unfold fw; rw [if_neg (by omega)]; omega)
    rw [if_pos e1] at h1
    simp at h1
    rw [if_pos e1, if_pos e1, g0, g1, g2]
    obtain ⟨f, k1, k2⟩ := c_addB hc h1.2 (o := t (p + 1) - 48) (w := t (p + 1 + 1) - 48) (k := t (p + 1 + 2) - 48)
    exact ⟨f, by rw [k1, pb_b_some], k2⟩
  · rw [if_neg e1] at h1
    rw [if_neg e1, if_neg e1]
    by_cases e2 : t p = 80
    · rw [if_neg (by omega), if_pos e2] at h1
      simp at h1
      rw [if_pos e2, if_pos e2, g0, g1]
      obtain ⟨f, k1, k2⟩ := c_addP hc h1 (h := t (p + 1) - 48) (m := t (p + 1 + 1) - 48)
      exact ⟨f, by rw [k1, pb_b_some], k2⟩
    · have e3 : t p = 68 := by
        by_cases e3 : t p = 68
        · exact e3
        · rw [if_neg e3, if_neg e2] at h1
          cases h1
      have g2 := hg 2 (by unfold fw; rw [if_neg (by omega)]; omega)
      have q2 := h2 2 (by unfold fw; rw [if_neg (by omega)]; omega)
      unfold fok at q0 q1
      rw [if_neg e1, if_pos e3] at q0 q1
      rw [if_pos rfl, Bool.and_eq_true, decide_eq_true_eq, Nat.add_zero] at q0
      rw [if_neg (by omega), if_pos rfl, Bool.and_eq_true, decide_eq_true_eq] at q1
      have r0 := q0.2.2.2.1
      have r1 := q1.2.2.2.1
      rw [if_neg e2, if_neg e2, g0, g1, g2]
      obtain ⟨f, k1, k2⟩ := c_add hc (i := t (p + 1) - 48) (j := t (p + 1 + 1) - 48) (x := t (p + 1 + 2) - 48) (by omega) (by omega) (by omega) (by have := dle hz.1 (show t (p + 1) - 48 < 4 by omega) (show t (p + 1 + 1) - 48 < 4 by omega); omega)
      exact ⟨f, by rw [k1, pb_b_some], k2⟩
theorem c_part (hc : pb_CR (μ.1 7) 0 z) (hz : PI z) (ht : pb_TX μ t L) (hL : L ≤ 56) (h255 : ∀ j, j < L → t j ≤ 255) (hp : p < L) : ∃ μ1, (agC μ μ1 ∧ frC μ μ1) ∧ (∀ q, flt t L z p = some q → pX4_readPart 6 (nI p) μ = some (nI q, μ1)) ∧ (flt t L z p = none → pX4_readPart 6 (nI p) μ = some ((-9 : Int32), μ1) ∧ pb_CR (μ1.1 7) 0 (telT t z p)) := by
  have eT : μ.1 2 (nI p).toNatClampNeg = nI (t p) := by rw [q_cl (by omega)]; exact ht.2 p hp
  have hx := h255 p hp
  have hc7 : pb_CR (μ.1 (6 + 1)) 0 z := hc
  have hfw : pX4_figuresOf (nI (t p)) μ = some (nI (fw (t p)), μ) := by
    unfold pX4_figuresOf fw
    simp only [lit (show t p < 2000000000 by omega) (show 80 < 2000000000 by omega) (show (80 : Int32) = nI 80 from rfl)]
    by_cases e : t p = 80
    · rw [if_pos e, if_pos e]
      rfl
    · rw [if_neg e, if_neg e]
      rfl
  unfold pX4_readPart
  rw [if_pos (q_in (by omega) (by omega)), eT, c_bgn hc7 hz.1 hx, pb_b_some]
  cases hfl : flt t L z p with
  | some q =>
    unfold flt at hfl
    by_cases e : bgn z (t p) = true
    · rw [if_pos e] at hfl
      rw [if_pos e, if_neg (by decide), hfw, pb_b_some]
      obtain ⟨g', j1, -⟩ := c_figL hc hz.1 ht hL h255 hp e (fun μk92 => pb_b (pX4_tell 6 (nI (t p)) μk92) (fun b95 μ95 => some ((-9 : Int32), μ95))) (fw (t p)) 0 pb_F (μ.1 3) (by omega) (pb_Fgt (by unfold fw; split <;> omega)) (fun j hj => by omega)
      rw [pb_sA_self] at j1
      cases s : pb_fst (fbad t L z p) (fw (t p)) 0 with
      | none => rw [s] at hfl; cases hfl
      | some y =>
        rw [s] at hfl
        have hy : p + 1 + y = q := by simpa using hfl
        refine ⟨pb_sA μ 3 g', ⟨agC.sA (by omega), frC.sA (by omega)⟩, fun q' hq' => ?_, fun h => by cases h⟩
        cases hq'
        rw [← hy]
        exact j1 y s
    · rw [if_neg e] at hfl
      cases hfl
      refine ⟨μ, ⟨agC.rf, frC.rf⟩, fun q' hq' => ?_, fun h => by cases h⟩
      cases hq'
      rw [if_neg e, if_pos (show nI 0 = (0 : Int32) from rfl)]
  | none =>
    have e := (flt_none hfl).1
    have hfl0 := hfl
    unfold flt at hfl
    rw [if_pos e] at hfl
    rw [if_pos e, if_neg (by decide), hfw, pb_b_some]
    obtain ⟨g', -, j2⟩ := c_figL hc hz.1 ht hL h255 hp e (fun μk92 => pb_b (pX4_tell 6 (nI (t p)) μk92) (fun b95 μ95 => some ((-9 : Int32), μ95))) (fw (t p)) 0 pb_F (μ.1 3) (by omega) (pb_Fgt (by unfold fw; split <;> omega)) (fun j hj => by omega)
    rw [pb_sA_self] at j2
    cases s : pb_fst (fbad t L z p) (fw (t p)) 0 with
    | some y => rw [s] at hfl; cases hfl
    | none =>
      obtain ⟨k1, k2⟩ := j2 s
      have hc3 : pb_CR ((pb_sA μ 3 g').1 (6 + 1)) 0 z := by rw [pb_sA_ne (by decide)]; exact hc
      obtain ⟨f, m1, m2⟩ := c_tell hc3 hz hfl0 (fun j hj => by rw [pb_sA_eq]; exact k2 j hj) hx
      refine ⟨pb_sA (pb_sA μ 3 g') (6 + 1) f, ⟨(agC.sA (by omega)).tr (agC.sA (by omega)), (frC.sA (by omega)).tr (frC.sA (by omega))⟩, (fun q h => by cases h), fun _ => ⟨?_, by rw [show (7 : Nat) = 6 + 1 from rfl, pb_sA_eq]; exact m2⟩⟩
      refine k1.trans ?_
      rw [m1, pb_b_some]
theorem TX_ag {μ1 : pb_M} (ht : pb_TX μ t L) (g : agC μ μ1) : pb_TX μ1 t L := by
  obtain ⟨-, g1, g2, -⟩ := g
  unfold pb_TX
  rw [g1, g2]
  exact ht
theorem c_readL (hL : L ≤ 56) (h255 : ∀ j, j < L → t j ≤ 255) : ∀ (c p n : Nat) (μ : pb_M) (z : pb_Vg), L ≤ p + c → p ≤ 60 → c < n → pb_TX μ t L → pb_CR (μ.1 7) 0 z → PI z → ∃ μ1, pX4_readInto_L26 6 n (nI p) μ = some (rsE (rdT t L c p z), μ1) ∧ (∀ z', rdT t L c p z = .inr z' → pb_CR (μ1.1 7) 0 z') ∧ agC μ μ1 ∧ frC μ μ1
  | _, _, 0, _, _, _, _, hn, _, _, _ => by omega
  | 0, p, n + 1, μ, z, hLp, hp, _, ht, hc, hz => by
    refine ⟨μ, ?_, fun z' h => ?_, agC.rf, frC.rf⟩
    · rw [pX4_readInto_L26, ht.1, if_pos ((nI_leI (by omega) (by omega)).mpr (by omega))]
      rfl
    · unfold rdT at h
      cases h
      exact hc
  | c + 1, p, n + 1, μ, z, hLp, hp, hn, ht, hc, hz => by
    unfold rdT
    by_cases e : L ≤ p
    · rw [if_pos e]
      refine ⟨μ, ?_, fun z' h => ?_, agC.rf, frC.rf⟩
      · rw [pX4_readInto_L26, ht.1, if_pos ((nI_leI (by omega) (by omega)).mpr e)]
        rfl
      · cases h
        exact hc
    · rw [if_neg e]
      obtain ⟨μ1, ⟨a1, a2⟩, h1, h2⟩ := c_part hc hz ht hL h255 (show p < L by omega)
      have hw : fw (t p) ≤ 3 := by unfold fw; split <;> omega
      have hx := h255 p (by omega)
      cases hfl : flt t L z p with
      | some q =>
        have hq : q ≤ 60 := rdT_le hL 1 p z hp (show rdT t L 1 p z = .inl q by
          unfold rdT
          rw [if_neg e, hfl])
        refine ⟨μ1, ?_, (fun z' h => by cases h), a1, a2⟩
        rw [pX4_readInto_L26, ht.1, if_neg (fun y => e ((nI_leI (by omega) (by omega)).mp y)), h1 q hfl, pb_b_some, if_neg (nI_ne9 (by omega))]
        rfl
      | none =>
        obtain ⟨k1, k2⟩ := h2 hfl
        have ht1 := TX_ag ht a1
        have eT : μ1.1 2 (nI p).toNatClampNeg = nI (t p) := by rw [q_cl (by omega)]; exact ht1.2 p (by omega)
        have hfw : pX4_figuresOf (nI (t p)) μ1 = some (nI (fw (t p)), μ1) := by
          unfold pX4_figuresOf fw
          simp only [lit (show t p < 2000000000 by omega) (show 80 < 2000000000 by omega) (show (80 : Int32) = nI 80 from rfl)]
          by_cases e : t p = 80
          · rw [if_pos e, if_pos e]
            rfl
          · rw [if_neg e, if_neg e]
            rfl
        obtain ⟨μ2, m1, m2, m3, m4⟩ := c_readL hL h255 c (p + 1 + fw (t p)) n μ1 (telT t z p) (by omega) (by omega) (by omega) ht1 k2 (telT_PI hz hfl)
        refine ⟨μ2, ?_, m2, a1.tr m3, a2.tr m4⟩
        rw [pX4_readInto_L26, ht.1, if_neg (fun y => e ((nI_leI (by omega) (by omega)).mp y)), k1, pb_b_some, if_pos rfl, if_pos (q_in (by omega) (by omega)), eT, hfw, pb_b_some, show nI p + ((1 : Int32) + nI (fw (t p))) = nI (p + 1 + fw (t p)) from by
          rw [show (1 : Int32) + nI (fw (t p)) = nI (1 + fw (t p)) from nI_add 1 _, nI_add, Nat.add_assoc]]
        exact m1
def rdA (t : Nat → Nat) (L : Nat) : Sum Nat pb_Vg := if L = 0 ∨ t 0 ≠ 86 then .inl 0 else rdT t L 56 1 z0
theorem c_clear : ∃ f, pX5_clear 6 μ = some ((), pb_sA μ 7 f) ∧ pb_CR f 0 z0 := by
  have h := lp_copy (fun n b r => pJ7_fill_53178_L5 7 (0 : Int32) (nI 52) n (nI b) (pb_sA μ 7 r)) (fun r => some ((), pb_sA μ 7 r)) (fun _ => (0 : Int32)) 0 52 (μ.1 7) (fun n r _ => by
    rw [pJ7_fill_53178_L5, if_pos ((nI_leI (by omega) (by omega)).mpr (Nat.le_refl _))]) (fun n b r hb _ => by
    rw [pJ7_fill_53178_L5, if_neg (fun y => (show ¬ 52 ≤ b by omega) ((nI_leI (by omega) (by omega)).mp y)), if_pos (show pb_in (nI b) (pb_ln 7) = true from q_in (n := 52) (by omega) (by omega)), q_cl (by omega), pb_sA_sA, pb_sA_eq, show nI b + (1 : Int32) = nI (b + 1) from nI_add b 1, Nat.zero_add]) pb_F (pb_Fgt (by omega))
  obtain ⟨r, g1, g2, -⟩ := h
  rw [pb_sA_self] at g1
  refine ⟨r, ?_, fun j hj => ?_⟩
  · unfold pX5_clear
    have g1' : pJ7_fill_53178 (6 + 1) (0 : Int32) μ = some ((), pb_sA μ 7 r) := g1
    rw [g1', pb_b_some]
  · rw [g2 j hj]
    unfold z0 pb_e
    by_cases q : 42 ≤ j ∧ j < 47
    · rw [if_pos q, if_pos q]
      rfl
    · rw [if_neg q, if_neg q]
      rfl
theorem c_read (ht : pb_TX μ t L) (hL : L ≤ 56) (h255 : ∀ j, j < L → t j ≤ 255) : ∃ μ1, pX4_readInto 6 μ = some (rsE (rdA t L), μ1) ∧ (∀ z', rdA t L = .inr z' → pb_CR (μ1.1 7) 0 z') ∧ agC μ μ1 ∧ frC μ μ1 := by
  obtain ⟨f, g1, g2⟩ := c_clear (μ := μ)
  have ht1 : pb_TX (pb_sA μ 7 f) t L := TX_ag ht (agC.sA (by omega))
  unfold pX4_readInto rdA
  rw [g1, pb_b_some, ht1.1]
  by_cases e : L = 0
  · rw [if_pos (show nI L = (0 : Int32) by rw [e]; rfl), if_pos (Or.inl e)]
    exact ⟨_, rfl, (fun z' h => by cases h), agC.sA (by omega), frC.sA (by omega)⟩
  · have hx := h255 0 (by omega)
    rw [if_neg (show ¬ nI L = (0 : Int32) from fun q => e ((nI_eq (b := 0) (by omega) (by omega)).mp q)), ht1.2 0 (by omega)]
    by_cases e2 : t 0 = 86
    · rw [if_pos (show nI (t 0) = (86 : Int32) by rw [e2]; rfl), if_neg (fun q => by rcases q with q | q; exact e q; exact q e2)]
      obtain ⟨μ1, k1, k2, k3, k4⟩ := c_readL hL h255 56 1 pb_F (pb_sA μ 7 f) z0 (by omega) (by omega) (pb_Fgt (by omega)) ht1 (by rw [pb_sA_eq]; exact g2) z0_PI
      exact ⟨μ1, k1, k2, (agC.sA (by omega)).tr k3, (frC.sA (by omega)).tr k4⟩
    · rw [if_neg (show ¬ nI (t 0) = (86 : Int32) from fun q => e2 ((nI_eq (b := 86) (by omega) (by omega)).mp q)), if_pos (Or.inr e2)]
      exact ⟨_, rfl, (fun z' h => by cases h), agC.sA (by omega), frC.sA (by omega)⟩
end READ3
