/-! the chance that m of the shut beasts are home -/
section CH
variable {K : Nat} {S : pb_S}
theorem it_pow (x : Nat) : ∀ (c b s : Nat), pb_it (fun _ s => s * x) c b s = s * x ^ c
  | 0, _, s => by simp [pb_it]
  | c + 1, b, s => by
    show pb_it (fun _ s => s * x) c (b + 1) (s * x) = _
    rw [it_pow x c, Nat.pow_succ, Nat.mul_assoc, Nat.mul_comm x]
theorem c_power {μ : pb_M} {x k : Nat} (hk : k < 100) : pX6_power (nI x) (nI k) μ = some (nI (x ^ k), μ) := by
  unfold pX6_power
  have h := (lp_it (fun n b s => pX6_power_L4 (nI x) (nI k) n (nI s) (nI b) μ) (fun _ s => s * x) (fun _ _ => True) k (fun s => some (nI s, μ)) (fun n s _ => by
    simp (disch := omega) only [pX6_power_L4, lz, q_add, q_in, q_cl, q_eq, q_lt, q_le, q_9, q_b10, q_b01, Nat.one_ne_zero, eq_self, if_true, if_false, pb_b_some, Nat.le_refl]) (fun n b s hb _ => ⟨by
    simp (disch := omega) only [pX6_power_L4, lz, q_add, q_in, q_cl, q_eq, q_lt, q_le, q_9, q_b10, q_b01, Nat.one_ne_zero, eq_self, if_true, if_false, pb_b_some, q_mul, show ¬ k ≤ b by omega], trivial⟩) k 0 pb_F 1 (by omega) (pb_Fgt (by omega)) trivial).1
  rw [it_pow, Nat.one_mul] at h
  exact h
theorem m_power {μ : pb_M} {x k : Nat} (hk : k < 100) : pX7_power (nI x) (nI k) μ = some (nI (x ^ k), μ) := by
  unfold pX7_power
  have h := (lp_it (fun n b s => pX7_power_L4 (nI x) (nI k) n (nI s) (nI b) μ) (fun _ s => s * x) (fun _ _ => True) k (fun s => some (nI s, μ)) (fun n s _ => by
    simp (disch := omega) only [pX7_power_L4, lz, q_add, q_in, q_cl, q_eq, q_lt, q_le, q_9, q_b10, q_b01, Nat.one_ne_zero, eq_self, if_true, if_false, pb_b_some, Nat.le_refl]) (fun n b s hb _ => ⟨by
    simp (disch := omega) only [pX7_power_L4, lz, q_add, q_in, q_cl, q_eq, q_lt, q_le, q_9, q_b10, q_b01, Nat.one_ne_zero, eq_self, if_true, if_false, pb_b_some, q_mul, show ¬ k ≤ b by omega], trivial⟩) k 0 pb_F 1 (by omega) (pb_Fgt (by omega)) trivial).1
  rw [it_pow, Nat.one_mul] at h
  exact h
def chB : Nat → Nat → Nat
  | _, 0 => 1
  | 0, _ + 1 => 0
  | n + 1, k + 1 => chB n k + chB n (k + 1)
def chW (s : Nat) (b : Nat) (z : Int32) : Int32 := (z * (nI s - nI b)) / (nI b + (1 : Int32))
theorem chW_all : ∀ s, s < 6 → ∀ m, m < 6 → m ≤ s → pb_it (chW s) m 0 (1 : Int32) = nI (chB s m) := by decide +kernel
theorem c_ways {μ : pb_M} {s m : Nat} (hs : s < 6) (hm : m ≤ s) : pX6_ways (nI s) (nI m) μ = some (nI (chB s m), μ) := by
  unfold pX6_ways
  have h := (lp_it (fun n b z => pX6_ways_L4 (nI s) (nI m) n z (nI b) μ) (chW s) (fun _ _ => True) m (fun z => some (z, μ)) (fun n z _ => by
    simp (disch := omega) only [pX6_ways_L4, lz, q_add, q_in, q_cl, q_eq, q_lt, q_le, q_9, q_b10, q_b01, Nat.one_ne_zero, eq_self, if_true, if_false, pb_b_some, Nat.le_refl]) (fun n b z hb _ => ⟨by
    rw [pX6_ways_L4, if_neg (fun z => (show ¬ m ≤ b by omega) ((nI_leI (by omega) (by omega)).mp z)), if_neg (show ¬ nI b + (1 : Int32) = 0 from fun z => (show ¬ b + 1 = 0 by omega) ((nI_eq (a := b + 1) (b := 0) (by omega) (by omega)).mp ((nI_add b 1).symm.trans z)))]
    show _ = pX6_ways_L4 (nI s) (nI m) n (chW s b z) (nI (b + 1)) μ
    rw [← nI_add]
    rfl, trivial⟩) m 0 pb_F (1 : Int32) (by omega) (pb_Fgt (by omega)) trivial).1
  rw [chW_all s hs m (by omega) hm] at h
  exact h
def euS : Nat → Nat → Nat → Option Nat
  | 0, _, _ => none
  | c + 1, a, b => if b = 0 then some a else euS c b (a % b)
theorem c_euS {μ : pb_M} {g : Nat} : ∀ (c a b r n : Nat), euS c a b = some g → r + c ≤ 64 → c < n → a < 2000000000 → b < 2000000000 → pX6_commonDivisor_L7 n (nI a) (nI b) (nI r) μ = some (nI g, μ)
  | 0, _, _, _, _, h, _, _, _, _ => by cases h
  | _ + 1, _, _, _, 0, _, _, hn, _, _ => by omega
  | c + 1, a, b, r, n + 1, h, hr, hn, ha, hb => by
    rw [euS] at h
    by_cases e : b = 0
    · rw [if_pos e] at h
      cases h
      simp (disch := omega) only [pX6_commonDivisor_L7, lz, q_add, q_in, q_cl, q_eq, q_lt, q_le, q_9, q_b10, q_b01, Nat.one_ne_zero, eq_self, if_true, if_false, pb_b_some, e, show ¬ 64 ≤ r by omega]
    · rw [if_neg e] at h
      have hm := Nat.mod_lt a (show b > 0 by omega)
      have := c_euS (μ := μ) c b (a % b) (r + 1) n h (by omega) (by omega) hb (by omega)
      simp (disch := omega) only [pX6_commonDivisor_L7, lz, q_add, q_in, q_cl, q_eq, q_lt, q_le, q_9, q_b10, q_b01, Nat.one_ne_zero, eq_self, if_true, if_false, pb_b_some, q_rem, e, show ¬ 64 ≤ r by omega]
      exact this
theorem m_euS {μ : pb_M} {g : Nat} : ∀ (c a b n : Nat), euS c a b = some g → c < n → a < 2000000000 → b < 2000000000 → pX7_common_L13 n (nI a) (nI b) μ = some (nI g, μ)
  | 0, _, _, _, h, _, _, _ => by cases h
  | _ + 1, _, _, 0, _, hn, _, _ => by omega
  | c + 1, a, b, n + 1, h, hn, ha, hb => by
    rw [euS] at h
    by_cases e : b = 0
    · rw [if_pos e] at h
      cases h
      simp (disch := omega) only [pX7_common_L13, lz, q_add, q_in, q_cl, q_eq, q_lt, q_le, q_9, q_b10, q_b01, Nat.one_ne_zero, eq_self, if_true, if_false, pb_b_some, e]
    · rw [if_neg e] at h
      have hm := Nat.mod_lt a (show b > 0 by omega)
      have := m_euS (μ := μ) c b (a % b) n h (by omega) hb (by omega)
      simp (disch := omega) only [pX7_common_L13, lz, q_add, q_in, q_cl, q_eq, q_lt, q_le, q_9, q_b10, q_b01, Nat.one_ne_zero, eq_self, if_true, if_false, pb_b_some, q_rem, e]
      exact this
def chN (s m x : Nat) : Nat := if m ≤ s then chB s m * x ^ m * (10 - x) ^ (s - m) else 0
def chT (s m x b : Nat) (z : Nat × Nat) : Nat × Nat := (z.1 + (if pb_pc b = m then x ^ pb_pc b * (10 - x) ^ (s - pb_pc b) else 0), z.2 + x ^ pb_pc b * (10 - x) ^ (s - pb_pc b))
theorem chT_all : ∀ s, s < 6 → ∀ m, m < 6 → ∀ x, x < 11 → pb_it (chT s m x) (2 ^ s) 0 (0, 0) = (chN s m x, 10 ^ s) := by decide +kernel
theorem ch_pc : ∀ s, s < 6 → ∀ b, b < 2 ^ s → pb_pc b ≤ s := by decide +kernel
theorem ch_lt : ∀ s, s < 6 → ∀ m, m < 6 → ∀ x, x < 11 → chN s m x < 2000000000 ∧ (euS 40 (chN s m x) (10 ^ s)).isSome = true ∧ 1 ≤ (euS 40 (chN s m x) (10 ^ s)).getD 0 ∧ (euS 40 (chN s m x) (10 ^ s)).getD 0 ≤ 100000 ∧ 10 ^ s < 2000000000 := by decide +kernel
theorem c_frac {μ : pb_M} {a d g : Nat} {v : Int32} (h : euS 40 a d = some g) (ha : a < 2000000000) (hd : d < 2000000000) (hg : 1 ≤ g) (hg2 : g ≤ 100000) : pX6_fraction (nI a) (nI d) v μ = some (if v = 0 then nI (d / g) else nI (a / g), μ) := by
  have h1 : pX6_commonDivisor (nI a) (nI d) μ = some (nI g, μ) := c_euS 40 a d 0 pb_F h (by omega) (pb_Fgt (by omega)) ha hd
  have h2 : (1 : Int32) ≤ nI g := (nI_leI (a := 1) (by omega) (by omega)).mpr hg
  have h3 : ¬ nI g = (0 : Int32) := fun z => (show ¬ g = 0 by omega) ((nI_eq (b := 0) (by omega) (by omega)).mp z)
  unfold pX6_fraction
  rw [h1, pb_b_some, if_pos h2]
  by_cases e : v = 0
  · rw [if_pos e, if_neg h3, if_pos e, q_div hd (by omega) (by omega)]
  · rw [if_neg e, if_neg h3, if_neg e, q_div ha (by omega) (by omega)]
theorem m_chL {μ : pb_M} {s m x : Nat} {v : Int32} (hs : s < 6) (hm : m < 6) (hx : x < 11) (Kc : Int32 → Int32 → pb_M → Option (Int32 × pb_M)) : pX7_chance_L45 (nI m) (nI x) v (nI s) Kc pb_F (0 : Int32) (0 : Int32) (0 : Int32) μ = Kc (nI (chN s m x)) (nI (10 ^ s)) μ := by
  have h32 := pow32 (n := s) (by omega)
  have h := (lp_it (fun n b (z : Nat × Nat) => pX7_chance_L45 (nI m) (nI x) v (nI s) Kc n (nI z.1) (nI z.2) (nI b) μ) (chT s m x) (fun _ _ => True) (2 ^ s) (fun z => Kc (nI z.1) (nI z.2) μ) (fun n z _ => by
    show pX7_chance_L45 (nI m) (nI x) v (nI s) Kc (n + 1) (nI z.1) (nI z.2) (nI (2 ^ s)) μ = _
    rw [pX7_chance_L45, q_shl (by omega), if_pos ((nI_leI (by omega) (by omega)).mpr (Nat.le_refl _))]) (fun n b z hb _ => ⟨by
    have hp := ch_pc s hs b hb
    show pX7_chance_L45 (nI m) (nI x) v (nI s) Kc (n + 1) (nI z.1) (nI z.2) (nI b) μ = pX7_chance_L45 (nI m) (nI x) v (nI s) Kc n (nI (chT s m x b z).1) (nI (chT s m x b z).2) (nI (b + 1)) μ
    unfold chT
    rw [pX7_chance_L45, q_shl (by omega), if_neg (fun z => (show ¬ 2 ^ s ≤ b by omega) ((nI_leI (by omega) (by omega)).mp z)), m_ones (by omega), pb_b_some, m_power (by omega), pb_b_some, m_ones (by omega), pb_b_some, show (10 : Int32) - nI x = nI (10 - x) from q_sub (x := 10) (by omega), q_sub hp, m_power (by omega), pb_b_some, m_ones (by omega), pb_b_some, q_mul, q_add, show nI b + (1 : Int32) = nI (b + 1) from nI_add b 1, show nI z.1 + (0 : Int32) = nI (z.1 + 0) from nI_add z.1 0, nI_add]
    by_cases e : pb_pc b = m
    · rw [if_pos (by rw [e]), if_pos e]
    · rw [if_neg (fun z => e ((nI_eq (by omega) (by omega)).mp z)), if_neg e], trivial⟩) (2 ^ s) 0 pb_F (0, 0) (by omega) (pb_Fgt (by omega)) trivial).1
  rw [chT_all s hs m hm x hx] at h
  exact h
end CH
