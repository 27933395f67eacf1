/-! the chance that m of the shut beasts are home -/
section CH
variable {K : Nat} {S : pb_S}
theorem it_pow (x : Nat) : ∀ (c b s : Nat), pb_it (fun _ s => s * x) c b s = s * x ^ c
  | 0, _, s => by simp [pb_it]
  | c + 1, b, s => by
    show pb_it (fun _ s => s * x) c (b + 1) (s * x) = _
    rw [it_pow x c, Nat.pow_succ, Nat.mul_assoc, Nat.mul_comm x]
theorem c_power {μ : pb_M} {x k : Nat} (hk : k < 100) : pX6_power (nI x) (nI k) μ = some (nI (x ^ k), μ) := by
  unfold pX6_power
  have h := (lp_it (fun n b s => pX6_power_L4 (nI x) (nI k) n (nI s) (nI b) μ) (fun _ s => s * x) (fun _ _ => True) k (fun s => some (nI s, μ)) (fun n s _ => by
    simp (disch := omega) only [pX6_power_L4, lz, q_add, q_in, q_cl, q_eq, q_lt, q_le, q_9, q_b10, q_b01, Nat.one_ne_zero, eq_self, if_true, if_false, pb_b_some, Nat.le_refl]) (fun n b s hb _ => ⟨by
    simp (disch := omega) only [pX6_power_L4, lz, q_add, q_in, q_cl, q_eq, q_lt, q_le, q_9, q_b10, q_b01, Nat.one_ne_zero, eq_self, if_true, if_false, pb_b_some, q_mul, show ¬ k ≤ b by omega], trivial⟩) k 0 pb_F 1 (by omega) (pb_Fgt (by omega)) trivial).1
  rw [it_pow, Nat.one_mul] at h
  exact h
theorem m_power {μ : pb_M} {x k : Nat} (hk : k < 100) : pX7_power (nI x) (nI k) μ = some (nI (x ^ k), μ) := by
  unfold pX7_power
  have h := (lp_it (fun n b s => pX7_power_L4 (nI x) (nI k) n (nI s) (nI b) μ) (fun _ s => s * x) (fun _ _ => True) k (fun s => some (nI s, μ)) (fun n s _ => by
    simp (disch := omega) only [pX7_power_L4, lz, q_add, q_in, q_cl, q_eq, q_lt, q_le, q_9, q_b10, q_b01, Nat.one_ne_zero, eq_self, if_true, if_false, pb_b_some, Nat.le_refl]) (fun n b s hb _ => ⟨by
    simp (disch := omega) only [pX7_power_L4, lz, q_add, q_in, q_cl, q_eq, q_lt, q_le, q_9, q_b10, q_b01, Nat.one_ne_zero, eq_self, if_true, if_false, pb_b_some, q_mul, show ¬ k ≤ b by omega], trivial⟩) k 0 pb_F 1 (by omega) (pb_Fgt (by omega)) trivial).1
  rw [it_pow, Nat.one_mul] at h
  exact h
def chB : Nat → Nat → Nat
  | _, 0 => 1
  | 0, _ + 1 => 0
  | n + 1, k + 1 => chB n k + chB n (k + 1)
def chW (s : Nat) (b : Nat) (z : Int32) : Int32 := (z * (nI s - nI b)) / (nI b + (1 : Int32))
theorem chW_all : ∀ s, s < 6 → ∀ m, m < 6 → m ≤ s → pb_it (chW s) m 0 (1 : Int32) = nI (chB s m) := by decide +kernel
theorem c_ways {μ : pb_M} {s m : Nat} (hs : s < 6) (hm : m ≤ s) : pX6_ways (nI s) (nI m) μ = some (nI (chB s m), μ) := by
  unfold pX6_ways
  have h := (lp_it (fun n b z => pX6_ways_L4 (nI s) (nI m) n z (nI b) μ) (chW s) (fun _ _ => True) m (fun z => some (z, μ)) (fun n z _ => by
    simp (disch := omega) only [pX6_ways_L4, lz, q_add, q_in, q_cl, q_eq, q_lt, q_le, q_9, q_b10, q_b01, Nat.one_ne_zero, eq_self, if_true, if_false, pb_b_some, Nat.le_refl]) (fun n b z hb _ => ⟨by
    rw [pX6_ways_L4, if_neg (fun z => (show ¬ m ≤ b by omega) ((nI_leI (by omega) (by omega)).mp z)), if_neg (show ¬ nI b + (1 : Int32) = 0 from fun z => (show ¬ b + 1 = 0 by omega) ((nI_eq (a := b + 1) (b := 0) (by omega) (by omega)).mp ((nI_add b 1).symm.trans z)))]
    show _ = pX6_ways_L4 (nI s) (nI m) n (chW s b z) (nI (b + 1)) μ
    rw [← nI_add]
    rfl, trivial⟩) m 0 pb_F (1 : Int32) (by omega) (pb_Fgt (by omega)) trivial).1
  rw [chW_all s hs m (by omega) hm] at h
  exact h
def euS : Nat → Nat → Nat → Option Nat
  | 0, _, _ => none
  | c + 1, a, b => if b = 0 then some a else euS c b (a % b)
theorem c_euS {μ : pb_M} {g : Nat} : ∀ (c a b r n : Nat), euS c a b = some g → r + c ≤ 64 → c < n → a < 2000000000 → b < 2000000000 → pX6_commonDivisor_L7 n (nI a) (nI b) (nI r) μ = some (nI g, μ)
  | 0, _, _, _, _, h, _, _, _, _ => by cases h
  | _ + 1, _, _, _, 0, _, _, hn, _, _ => by omega
  | c + 1, a, b, r, n + 1, h, hr, hn, ha, hb => by
    rw [euS] at h
    by_cases e : b = 0
    · rw [if_pos e] at h
      cases h
      simp (disch := omega) only [pX6_commonDivisor_L7, lz, q_add, q_in, q_cl, q_eq, q_lt, q_le, q_9, q_b10, q_b01, Nat.one_ne_zero, eq_self, if_true, if_false, pb_b_some, e, show ¬ 64 ≤ r by omega]
    · rw [if_neg e] at h
      have hm := Nat.mod_lt a (show b > 0 by omega)
      have := c_euS (μ := μ) c b (a % b) (r + 1) n h (by omega) (by omega) hb (by omega)
      simp (disch := omega) only [pX6_commonDivisor_L7, lz, q_add, q_in, q_cl, q_eq, q_lt, q_le, q_9, q_b10, q_b01, Nat.one_ne_zero, eq_self, if_true, if_false, pb_b_some, q_rem, e, show ¬ 64 ≤ r by omega]
      exact this
theorem m_euS {μ : pb_M} {g : Nat} : ∀ (c a b n : Nat), euS c a b = some g → c < n → a < 2000000000 → b < 2000000000 → pX7_common_L13 n (nI a) (nI b) μ = some (nI g, μ)
  | 0, _, _, _, h, _, _, _ => by cases h
  | _ + 1, _, _, 0, _, hn, _, _ => by omega
  | c + 1, a, b, n + 1, h, hn, ha, hb => by
    rw [euS] at h
    by_cases e : b = 0
    · rw [if_pos e] at h
      cases h
      simp (disch := omega) only [pX7_common_L13, lz, q_add, q_in, q_cl, q_eq, q_lt, q_le, q_9, q_b10, q_b01, Nat.one_ne_zero, eq_self, if_true, if_false, pb_b_some, e]
    · rw [if_neg e] at h
      have hm := Nat.mod_lt a (show b > 0 by omega)
      have := m_euS (μ := μ) c b (a % b) n h (by omega) hb (by omega)
      simp (disch := omega) only [pX7_common_L13, lz, q_add, q_in, q_cl, q_eq, q_lt, q_le, q_9, q_b10, q_b01, Nat.one_ne_zero, eq_self, if_true, if_false, pb_b_some, q_rem, e]
      exact this
def chN (s m x : Nat) : Nat := if m ≤ s then chB s m * x ^ m * (10 - x) ^ (s - m) else 0
def chT (s m x b : Nat) (z : Nat × Nat) : Nat × Nat := (z.1 + (if pb_pc b = m then x ^ pb_pc b * (10 - x) ^ (s - pb_pc b) else 0), z.2 + x ^ pb_pc b * (10 - x) ^ (s - pb_pc b))
theorem chT_all : ∀ s, s < 6 → ∀ m, m < 6 → ∀ x, x < 11 → pb_it (chT s m x) (2 ^ s) 0 (0, 0) = (chN s m x, 10 ^ s) := by decide +kernel
theorem ch_pc : ∀ s, s < 6 → ∀ b, b < 2 ^ s → pb_pc b ≤ s := by decide +kernel
theorem ch_lt : ∀ s, s < 6 → ∀ m, m < 6 → ∀ x, x < 11 → chN s m x < 2000000000 ∧ (euS 40 (chN s m x) (10 ^ s)).isSome = true ∧ 1 ≤ (euS 40 (chN s m x) (10 ^ s)).getD 0 ∧ (euS 40 (chN s m x) (10 ^ s)).getD 0 ≤ 100000 ∧ 10 ^ s < 2000000000 := by decide +kernel
theorem c_frac {μ : pb_M} {a d g : Nat} {v : Int32} (h : euS 40 a d = some g) (ha : a < 2000000000) (hd : d < 2000000000) (hg : 1 ≤ g) (hg2 : g ≤ 100000) : pX6_fraction (nI a) (nI d) v μ = some (if v = 0 then nI (d / g) else nI (a / g), μ) := by
  have h1 : pX6_commonDivisor (nI a) (nI d) μ = some (nI g, μ) := c_euS 40 a d 0 pb_F h (by omega) (pb_Fgt (by omega)) ha hd
  have h2 : (1 : Int32) ≤ nI g := (nI_leI (a := 1) (by omega) (by omega)).mpr hg
  have h3 : ¬ nI g = (0 : Int32) := fun z => (show ¬ g = 0 by omega) ((nI_eq (b := 0) (by omega) (by omega)).mp z)
  unfold pX6_fraction
  rw [h1, pb_b_some, if_pos h2]
  by_cases e : v = 0
  · rw [if_pos e, if_neg h3, if_pos e, q_div hd (by omega) (by omega)]
  · rw [if_neg e, if_neg h3, if_neg e, q_div ha (by omega) (by omega)]
theorem m_chL {μ : pb_M} {s m x : Nat} {v : Int32} (hs : s < 6) (hm : m < 6) (hx : x < 11) (Kc : Int32 → Int32 → pb_M → Option (Int32 × pb_M)) : pX7_chance_L45 (nI m) (nI x) v (nI s) Kc pb_F (0 : Int32) (0 : Int32) (0 : Int32) μ = Kc (nI (chN s m x)) (nI (10 ^ s)) μ := by
  have h32 := pow32 (n := s) (by omega)
  have h := (lp_it (fun n b (z : Nat × Nat) => pX7_chance_L45 (nI m) (nI x) v (nI s) Kc n (nI z.1) (nI z.2) (nI b) μ) (chT s m x) (fun _ _ => True) (2 ^ s) (fun z => Kc (nI z.1) (nI z.2) μ) (fun n z _ => by
    show pX7_chance_L45 (nI m) (nI x) v (nI s) Kc (n + 1) (nI z.1) (nI z.2) (nI (2 ^ s)) μ = _
    rw [pX7_chance_L45, q_shl (by omega), if_pos ((nI_leI (by omega) (by omega)).mpr (Nat.le_refl _))]) (fun n b z hb _ => ⟨by
    have hp := ch_pc s hs b hb
    show pX7_chance_L45 (nI m) (nI x) v (nI s) Kc (n + 1) (nI z.1) (nI z.2) (nI b) μ = pX7_chance_L45 (nI m) (nI x) v (nI s) Kc n (nI (chT s m x b z).1) (nI (chT s m x b z).2) (nI (b + 1)) μ
    unfold chT
    rw [pX7_chance_L45, q_shl (by omega), if_neg (fun z => (show ¬ 2 ^ s ≤ b by omega) ((nI_leI (by omega) (by omega)).mp z)), m_ones (by omega), pb_b_some, m_power (by omega), pb_b_some, m_ones (by omega), pb_b_some, show (10 : Int32) - nI x = nI (10 - x) from q_sub (x := 10) (by omega), q_sub hp, m_power (by omega), pb_b_some, m_ones (by omega), pb_b_some, q_mul, q_add, show nI b + (1 : Int32) = nI (b + 1) from nI_add b 1, show nI z.1 + (0 : Int32) = nI (z.1 + 0) from nI_add z.1 0, nI_add]
    by_cases e : pb_pc b = m
    · rw [if_pos (by rw [e]), if_pos e]
    · rw [if_neg (fun z => e ((nI_eq (by omega) (by omega)).mp z)), if_neg e], trivial⟩) (2 ^ s) 0 pb_F (0, 0) (by omega) (pb_Fgt (by omega)) trivial).1
  rw [chT_all s hs m hm x hx] at h
  exact h
theorem in05 {x : Int32} : ((0 : Int64) ≤ x.toInt64 ∧ x.toInt64 ≤ (5 : Int64)) = (inR x 6 = true) := by
  rw [l_0, show (5 : Int64) = (nI 6 - (1 : Int32)).toInt64 from by decide]
  simp only [l_le, le_pred (show 6 < 1000000 by omega)]
  unfold inR
  simp
theorem in010 {x : Int32} : ((0 : Int64) ≤ x.toInt64 ∧ x.toInt64 ≤ (10 : Int64)) = (inR x 11 = true) := by
  rw [l_0, show (10 : Int64) = (nI 11 - (1 : Int32)).toInt64 from by decide]
  simp only [l_le, le_pred (show 11 < 1000000 by omega)]
  unfold inR
  simp
theorem out6 {x : Int32} (h : ¬ inR x 6 = true) : x < 0 ∨ (¬ x < 0 ∧ 5 < x) := by
  by_cases h0 : x < 0
  · exact Or.inl h0
  · refine Or.inr ⟨h0, Decidable.byContradiction fun q => h ?_⟩
    unfold inR
    simp only [Bool.and_eq_true, decide_eq_true_eq]
    refine ⟨Int32.not_lt.mp h0, ?_⟩
    obtain ⟨j, hj, rfl⟩ := nI_of2 (x := x) (M := 5) (n := 5) (by decide) h0 (Int32.not_lt.mp q)
    exact (nI_ltI (by omega) (by omega)).mpr (by omega)
theorem out11 {x : Int32} (h : ¬ inR x 11 = true) : x < 0 ∨ (¬ x < 0 ∧ ¬ x ≤ 10) := by
  by_cases h0 : x < 0
  · exact Or.inl h0
  · refine Or.inr ⟨h0, fun q => h ?_⟩
    unfold inR
    simp only [Bool.and_eq_true, decide_eq_true_eq]
    refine ⟨Int32.not_lt.mp h0, ?_⟩
    obtain ⟨j, hj, rfl⟩ := nI_of2 (x := x) (M := 10) (n := 10) (by decide) h0 q
    exact (nI_ltI (by omega) (by omega)).mpr (by omega)
def chG (s m x : Nat) : Nat := (euS 40 (chN s m x) (10 ^ s)).getD 0
theorem chG_eu {s m x : Nat} (hs : s < 6) (hm : m < 6) (hx : x < 11) : euS 40 (chN s m x) (10 ^ s) = some (chG s m x) := by
  have h := (ch_lt s hs m hm x hx).2.1
  unfold chG
  cases q : euS 40 (chN s m x) (10 ^ s) with
  | none => rw [q] at h; cases h
  | some g => rfl
theorem ch_no : ∀ s, s < 6 → ∀ m, m < 6 → ∀ x, x < 11 → ¬ m ≤ s → 10 ^ s / chG s m x = 1 ∧ chN s m x / chG s m x = 0 := by decide +kernel
theorem q_neg : ∀ s, s < 6 → ∀ m, m < 6 → ((0 : Int32) ≤ nI s - nI m ↔ m ≤ s) := by decide +kernel
set_option maxRecDepth 100000 in
theorem op_chance (hA : InvA K S) (hK : K + 1 ≤ 64) (u w v : Int32) : pOp K S (pX6_chance u w v) (pX7_chance u w v) := by
  have hB := hA.1.1.1.2
  have hs := hA.s
  by_cases h1 : inR u 6 = true
  · by_cases h2 : inR w 11 = true
    · obtain ⟨m, hm, rfl⟩ := inR_of h1 (by omega)
      obtain ⟨x, hx, rfl⟩ := inR_of h2 (by omega)
      have h32 : pb_bits (fun b => S.1 (42 + b) != 0) (vB S.1) < 32 := pb_bits_32 _ hB
      have h5 := pb_pc_lt (pb_bits (fun b => S.1 (42 + b) != 0) (vB S.1))
      generalize hs1 : pb_pc (pb_bits (fun b => S.1 (42 + b) != 0) (vB S.1)) = s at h5
      have hs6 : s < 6 := by omega
      obtain ⟨l1, -, l3, l4, l5⟩ := ch_lt s hs6 m hm x hx
      have l2 := chG_eu hs6 hm hx
      have l3 : 1 ≤ chG s m x := l3
      have l4 : chG s m x ≤ 100000 := l4
      refine pOp.read hA hK (if v = 0 then nI (10 ^ s / chG s m x) else nI (chN s m x / chG s m x)) (pC.same fun μ hC => ?_) (pM.same fun μ hM => ?_)
      · have hc : pb_CR (μ.1 (4 + 1)) 0 S.1 := hC.1
        unfold pX6_chance
        rw [if_neg (show ¬ nI m < (0 : Int32) from fun z => (show ¬ m < 0 by omega) ((nI_ltI (b := 0) (by omega) (by omega)).mp z)), if_neg (show ¬ (5 : Int32) < nI m from fun z => (show ¬ 5 < m by omega) ((nI_ltI (a := 5) (by omega) (by omega)).mp z)), if_neg (show ¬ nI x < (0 : Int32) from fun z => (show ¬ x < 0 by omega) ((nI_ltI (b := 0) (by omega) (by omega)).mp z)), if_pos (show nI x ≤ (10 : Int32) from (nI_leI (b := 10) (by omega) (by omega)).mpr (by omega)), c_shutB hc hs hB, pb_b_some, c_bits h32, pb_b_some, hs1]
        by_cases e : m ≤ s
        · rw [if_pos ((q_neg s hs6 m hm).mpr e), c_ways hs6 e, pb_b_some, c_power (by omega), pb_b_some, show (10 : Int32) - nI x = nI (10 - x) from q_sub (x := 10) (by omega), q_sub e, c_power (by omega), pb_b_some, show (10 : Int32) = nI 10 from rfl, c_power (by omega), pb_b_some, q_mul, q_mul]
          have en : chB s m * x ^ m * (10 - x) ^ (s - m) = chN s m x := by unfold chN; rw [if_pos e]
          rw [en, c_frac l2 l1 l5 l3 l4, pb_b_some]
        · obtain ⟨n1, n2⟩ := ch_no s hs6 m hm x hx e
          have l6 : pX6_fraction (0 : Int32) (1 : Int32) v μ = some (if v = 0 then nI (1 / 1) else nI (0 / 1), μ) := c_frac (a := 0) (d := 1) (g := 1) (by decide) (by omega) (by omega) (by omega) (by omega)
          rw [if_neg (fun z => e ((q_neg s hs6 m hm).mp z)), l6, pb_b_some, n1, n2]
      · have e1 : pX7_in (nI m).toInt64 (0 : Int64) (5 : Int64) μ = some (nI 1, μ) := by
          rw [m_in]
          simp only [in05, if_pos h1]
        have e2 : pX7_in (nI x).toInt64 (0 : Int64) (10 : Int64) μ = some (nI 1, μ) := by
          rw [m_in]
          simp only [in010, if_pos h2]
        have e3 : pX7_common (nI (chN s m x)) (nI (10 ^ s)) μ = some (nI (chG s m x), μ) := by
          unfold pX7_common
          rw [if_pos (show (0 : Int32) ≤ nI (chN s m x) from nI_pos' (by omega))]
          exact m_euS 40 _ _ pb_F l2 (pb_Fgt (by omega)) l1 l5
        have h3 : ¬ nI (chG s m x) = (0 : Int32) := fun z => (show ¬ chG s m x = 0 by omega) ((nI_eq (b := 0) (by omega) (by omega)).mp z)
        unfold pX7_chance
        rw [e1, pb_b_some, if_neg (by decide), e2, pb_b_some, if_neg (by decide), m_shutNow hM.1 hs hB, pb_b_some, m_ones (by omega), pb_b_some, hs1]
        refine (m_chL hs6 hm hx _).trans ?_
        rw [e3, pb_b_some]
        by_cases e : v = 0
        · rw [if_pos e, if_neg h3, if_pos e, q_div l5 (by omega) (by omega)]
        · rw [if_neg e, if_neg h3, if_neg e, q_div l1 (by omega) (by omega)]
    · refine pOp.read hA hK (-2) (pC.same fun μ hC => ?_) (pM.same fun μ hM => ?_)
      · unfold pX6_chance
        obtain ⟨m, hm, rfl⟩ := inR_of h1 (by omega)
        rw [if_neg (show ¬ nI m < (0 : Int32) from fun z => (show ¬ m < 0 by omega) ((nI_ltI (b := 0) (by omega) (by omega)).mp z)), if_neg (show ¬ (5 : Int32) < nI m from fun z => (show ¬ 5 < m by omega) ((nI_ltI (a := 5) (by omega) (by omega)).mp z))]
        rcases out11 h2 with q | ⟨q, q'⟩
        · rw [if_pos q]
        · rw [if_neg q, if_neg q']
      · have e1 : pX7_in u.toInt64 (0 : Int64) (5 : Int64) μ = some (nI 1, μ) := by
          rw [m_in]
          simp only [in05, if_pos h1]
        have e2 : pX7_in w.toInt64 (0 : Int64) (10 : Int64) μ = some (nI 0, μ) := by
          rw [m_in]
          simp only [in010, if_neg h2]
        unfold pX7_chance
        rw [e1, pb_b_some, if_neg (by decide), e2, pb_b_some, if_pos (show nI 0 = (0 : Int32) from rfl)]
  · refine pOp.read hA hK (-2) (pC.same fun μ hC => ?_) (pM.same fun μ hM => ?_)
    · unfold pX6_chance
      rcases out6 h1 with q | ⟨q, q'⟩
      · rw [if_pos q]
      · rw [if_neg q, if_pos q']
    · have e1 : pX7_in u.toInt64 (0 : Int64) (5 : Int64) μ = some (nI 0, μ) := by
        rw [m_in]
        simp only [in05, if_neg h1]
      unfold pX7_chance
      rw [e1, pb_b_some, if_pos (show nI 0 = (0 : Int32) from rfl)]
end CH
