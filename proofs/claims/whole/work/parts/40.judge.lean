/-! longs; what is tried on the trial: judge -/
section LONGS
def nL (n : Nat) : Int64 := Int64.ofNat n
theorem nL_toInt {n : Nat} (h : n < 2 ^ 63) : (nL n).toInt = n := lg_ofNat_toInt h
theorem nL_add (a b : Nat) : nL a + nL b = nL (a + b) := (Int64.ofNat_add a b).symm
theorem nL_mul (a b : Nat) : nL a * nL b = nL (a * b) := (Int64.ofNat_mul a b).symm
theorem nL_sub {a b : Nat} (h : b ≤ a) : nL a - nL b = nL (a - b) := by
  obtain ⟨c, rfl⟩ : ∃ c, a = c + b := ⟨a - b, by omega⟩
  rw [← nL_add, Int64.add_sub_cancel, Nat.add_sub_cancel]
theorem nL_div {a d : Nat} (ha : a < 2 ^ 63) (h0 : 0 < d) (hd : d < 2 ^ 63) : nL a / nL d = nL (a / d) := by
  apply Int64.toInt_inj.mp
  rw [lg_ldiv_nonneg (by rw [nL_toInt ha]; omega) (by rw [nL_toInt hd]; omega), nL_toInt ha, nL_toInt hd, nL_toInt (Nat.lt_of_le_of_lt (Nat.div_le_self a d) ha)]
  first | rfl | exact (Int.natCast_ediv _ _).symm
theorem nL_rem {a d : Nat} (ha : a < 2 ^ 63) (h0 : 0 < d) (hd : d < 2 ^ 63) : pb_lmod (nL a) (nL d) = nL (a % d) := by
  unfold pb_lmod
  rw [nL_div ha h0 hd, nL_mul, nL_sub (Nat.div_mul_le_self a d)]
  exact congrArg nL (by have := Nat.div_add_mod' a d; omega)
theorem nL_of {x : Int64} (h : 0 ≤ x) : ∃ n, n < 2 ^ 63 ∧ x = nL n := by
  have h1 := Int64.le_iff_toInt_le.mp h
  rw [show (0 : Int64).toInt = 0 from by decide] at h1
  have h2 := Int64.toInt_lt x
  refine ⟨x.toInt.toNat, by omega, ?_⟩
  apply Int64.toInt_inj.mp
  rw [nL_toInt (by omega)]
  omega
theorem nL_i {n : Nat} (h : n < 2 ^ 31) : (nL n).toInt32 = nI n := by
  apply Int32.toInt_inj.mp
  rw [Int64.toInt_toInt32, nL_toInt (by omega), nI_toInt h]
  exact Int.bmod_eq_of_le (by omega) (by omega)
theorem nL_le {a b : Nat} (ha : a < 2 ^ 63) (hb : b < 2 ^ 63) : (nL a ≤ nL b) = (a ≤ b) := propext (by rw [Int64.le_iff_toInt_le, nL_toInt ha, nL_toInt hb]; omega)
theorem nL_0 {a : Nat} (ha : a < 2 ^ 63) : (nL a = (0 : Int64)) = (a = 0) := propext ⟨fun h => by
  have := congrArg Int64.toInt h
  rw [nL_toInt ha, show (0 : Int64).toInt = 0 from by decide] at this
  omega, fun h => by rw [h]; rfl⟩
theorem pb_sLA {μ : pb_M} {h k : Nat} {s : Int64} {f : Nat → Int32} : pb_sA (pb_sL μ h s) k f = pb_sL (pb_sA μ k f) h s := rfl
theorem pb_sLL {μ : pb_M} {h : Nat} {s t : Int64} : pb_sL (pb_sL μ h s) h t = pb_sL μ h t := by
  unfold pb_sL
  congr 1
  funext h'
  by_cases e : h' = h
  · simp [e]
  · simp [e]
theorem pb_sL_1 {μ : pb_M} {h : Nat} {s : Int64} : (pb_sL μ h s).1 = μ.1 := rfl
theorem pb_sL_2 {μ : pb_M} {h : Nat} {s : Int64} : (pb_sL μ h s).2 h = s := by simp [pb_sL]
theorem pb_sL_self {μ : pb_M} {h : Nat} : pb_sL μ h (μ.2 h) = μ := by
  unfold pb_sL
  cases μ with
  | mk x y =>
    congr 1
    funext h'
    by_cases e : h' = h
    · simp [e]
    · simp [e]
theorem inR_dec {P n : Nat} (hP : P < 1000000) (hn : n < 1000000) : inR (nI P - (1 : Int32)) n = decide (1 ≤ P ∧ P ≤ n) := by
  cases P with
  | zero =>
    unfold inR
    rw [show nI 0 - (1 : Int32) = -1 from by decide, decide_eq_false (by decide : ¬ (0 : Int32) ≤ -1)]
    simp
  | succ P =>
    rw [show nI (P + 1) - (1 : Int32) = nI P from pk_sub (show 1 ≤ P + 1 by omega), inR_nI (by omega) (by omega)]
    apply decide_eq_decide.mpr
    omega
end LONGS
section TRY
variable {K : Nat} {S : pb_S} {μ : pb_M} {z : pb_Vg} {M : Nat}
def nC (x : Int32) : Nat := x.toNatClampNeg
theorem nC_nI {n : Nat} (h : n < 2000000000) : nC (nI n) = n := q_cl h
def jD (z : pb_Vg) (x y : Int32) : Bool := inR x (vP z) && (inR y (vB z) && (vClause z (nC x) (nC y) == 0))
def jR (z : pb_Vg) (y : Int32) : Bool := inR y (vB z) && decide (z (42 + nC y) ≠ 0)
def jK (z : pb_Vg) (y : Int32) : Bool := inR y (vB z) && decide (z (42 + nC y) ≠ 0 ∧ 3 ≤ z (47 + nC y))
def jDv (z : pb_Vg) (x y : Int32) : pb_Vg := if jD z x y = true then vShut z (nC x) (nC y) else z
def jRv (z : pb_Vg) (y : Int32) : pb_Vg := if jR z y = true then vRun z (nC y) else z
def jKv (z : pb_Vg) (y : Int32) : pb_Vg := if jK z y = true then vKeep z (nC y) else z
theorem jDv_ok (hz : vOk M z) (hM : 100 ≤ M) (x y : Int32) : vOk M (jDv z x y) := by
  unfold jDv
  split
  · rename_i h
    unfold jD at h
    simp only [Bool.and_eq_true, beq_iff_eq] at h
    obtain ⟨h1, h2, h3⟩ := h
    obtain ⟨p, hp, rfl⟩ := inR_of h1 (by have := hz.1.1; omega)
    obtain ⟨b, hb, rfl⟩ := inR_of h2 (by have := hz.1.2; omega)
    have h5 := hz.1.1
    have h6 := hz.1.2
    rw [nC_nI (by omega), nC_nI (by omega)] at h3 ⊢
    have h4 := vClause0 (Or.inl h3)
    exact hz.shut hb hp h4.1 h4.2.1 hM
  · exact hz
theorem jRv_ok (hz : vOk M z) (hM : 100 ≤ M) (y : Int32) : vOk M (jRv z y) := by
  unfold jRv
  split
  · rename_i h
    unfold jR at h
    simp only [Bool.and_eq_true, decide_eq_true_eq] at h
    obtain ⟨h2, h3⟩ := h
    obtain ⟨b, hb, rfl⟩ := inR_of h2 (by have := hz.1.2; omega)
    have h6 := hz.1.2
    rw [nC_nI (by omega)] at h3 ⊢
    exact hz.run hb h3 hM
  · exact hz
theorem jKv_ok (hz : vOk M z) (hM : 100 ≤ M) (y : Int32) : vOk M (jKv z y) := by
  unfold jKv
  split
  · rename_i h
    unfold jK at h
    simp only [Bool.and_eq_true, decide_eq_true_eq] at h
    obtain ⟨h2, h3⟩ := h
    obtain ⟨b, hb, rfl⟩ := inR_of h2 (by have := hz.1.2; omega)
    have h6 := hz.1.2
    rw [nC_nI (by omega)] at h3 ⊢
    exact hz.keep hb h3.1 hM
  · exact hz
theorem pb_self (μ : pb_M) (h : Nat) : some ((0 : Int32), μ) = some (nI 0, pb_sA μ h (μ.1 h)) := by rw [pb_sA_self]; rfl
theorem c_jD (hc : pb_CR (μ.1 (6 + 1)) 0 z) (hz : vOk M z) (hM2 : M ≤ 900000) (x y : Int32) : ∃ f, pX6_driveIfFree x y μ = some (nI (if jD z x y = true then 1 else 0), pb_sA μ (6 + 1) f) ∧ pb_CR f 0 (jDv z x y) := by
  have h5 := hz.1.1
  have h6 := hz.1.2
  have hs := hz.s (by omega)
  unfold pX6_driveIfFree jDv jD
  rw [c_hasP hc, pb_b_some]
  by_cases h1 : inR x (vP z) = true
  · rw [if_pos h1, if_neg (by decide), c_hasB hc, pb_b_some]
    by_cases h2 : inR y (vB z) = true
    · obtain ⟨p, hp, rfl⟩ := inR_of h1 (by omega)
      obtain ⟨b, hb, rfl⟩ := inR_of h2 (by omega)
      have hl := vClause_lt z p b
      rw [if_pos h2, if_neg (by decide), nC_nI (by omega), nC_nI (by omega), c_clause hc hs (show p < 4 by omega) (show b < 5 by omega) (by have := (hz.2.1 b hb).1; omega), pb_b_some]
      by_cases h3 : vClause z p b = 0
      · obtain ⟨f, g1, g2⟩ := c_shutIn hc (p := p) (b := b) (by omega)
        rw [h3, if_pos (show nI 0 = (0 : Int32) from rfl), g1, pb_b_some]
        refine ⟨f, ?_, ?_⟩
        · simp [h1, h2]
          rfl
        · simpa [h1, h2] using g2
      · rw [if_neg (show ¬ nI (vClause z p b) = (0 : Int32) from fun q => h3 ((nI_eq (b := 0) (by omega) (by omega)).mp q))]
        refine ⟨μ.1 (6 + 1), ?_, ?_⟩
        · simp [h3]
          exact ⟨rfl, pb_sA_self.symm⟩
        · simpa [h3] using hc
    · rw [if_neg h2, if_pos (show nI 0 = (0 : Int32) from rfl)]
      refine ⟨μ.1 (6 + 1), ?_, ?_⟩
      · simp [h2]
        exact ⟨rfl, pb_sA_self.symm⟩
      · simpa [h2] using hc
  · rw [if_neg h1, if_pos (show nI 0 = (0 : Int32) from rfl)]
    refine ⟨μ.1 (6 + 1), ?_, ?_⟩
    · simp [h1]
      exact ⟨rfl, pb_sA_self.symm⟩
    · simpa [h1] using hc
theorem c_jR (hc : pb_CR (μ.1 (6 + 1)) 0 z) (hz : vOk M z) (hM2 : M ≤ 900000) (y : Int32) : ∃ f, pX6_runHomeIfShut y μ = some (nI (if jR z y = true then 1 else 0), pb_sA μ (6 + 1) f) ∧ pb_CR f 0 (jRv z y) := by
  have h6 := hz.1.2
  have hs := hz.s (by omega)
  unfold pX6_runHomeIfShut jRv jR
  rw [c_hasB hc, pb_b_some]
  by_cases h2 : inR y (vB z) = true
  · obtain ⟨b, hb, rfl⟩ := inR_of h2 (by omega)
    rw [if_pos h2, if_neg (by decide), nC_nI (by omega), c_shut hc hs (show b < 5 by omega), pb_b_some]
    by_cases h3 : z (42 + b) = 0
    · rw [if_pos h3, if_pos (show nI 0 = (0 : Int32) from rfl)]
      refine ⟨μ.1 (6 + 1), ?_, ?_⟩
      · simp [h3]
        exact ⟨rfl, pb_sA_self.symm⟩
      · simpa [h3] using hc
    · obtain ⟨f, g1, g2⟩ := c_run hc hz hM2 hb h3
      rw [if_neg h3, if_neg (by decide), g1, pb_b_some]
      refine ⟨f, ?_, ?_⟩
      · simp [h2, h3]
        rfl
      · simpa [h2, h3] using g2
  · rw [if_neg h2, if_pos (show nI 0 = (0 : Int32) from rfl)]
    refine ⟨μ.1 (6 + 1), ?_, ?_⟩
    · simp [h2]
      exact ⟨rfl, pb_sA_self.symm⟩
    · simpa [h2] using hc
theorem c_jK (hc : pb_CR (μ.1 (6 + 1)) 0 z) (hz : vOk M z) (hM2 : M ≤ 900000) (y : Int32) : ∃ f, pX6_keepIfRipe y μ = some (nI (if jK z y = true then 1 else 0), pb_sA μ (6 + 1) f) ∧ pb_CR f 0 (jKv z y) := by
  have h6 := hz.1.2
  have hs := hz.s (by omega)
  unfold pX6_keepIfRipe jKv jK
  rw [c_hasB hc, pb_b_some]
  by_cases h2 : inR y (vB z) = true
  · obtain ⟨b, hb, rfl⟩ := inR_of h2 (by omega)
    rw [if_pos h2, if_neg (by decide), nC_nI (by omega), c_ripe hc hs (show b < 5 by omega), pb_b_some]
    by_cases h3 : z (42 + b) ≠ 0 ∧ 3 ≤ z (47 + b)
    · obtain ⟨f, g1, g2⟩ := c_keep hc hz hM2 hb h3.1
      rw [if_pos h3, if_neg (by decide), g1, pb_b_some]
      refine ⟨f, ?_, ?_⟩
      · simp [h2, h3]
        rfl
      · simpa [h2, h3] using g2
    · rw [if_neg h3, if_pos (show nI 0 = (0 : Int32) from rfl), decide_eq_false h3, Bool.and_false]
      refine ⟨μ.1 (6 + 1), ?_, ?_⟩
      · rw [if_neg (by decide)]
        exact pb_self μ (6 + 1)
      · rw [if_neg (by decide)]
        exact hc
  · rw [if_neg h2, if_pos (show nI 0 = (0 : Int32) from rfl)]
    refine ⟨μ.1 (6 + 1), ?_, ?_⟩
    · simp [h2]
      exact ⟨rfl, pb_sA_self.symm⟩
    · simpa [h2] using hc
/-- a thing, told as three figures: whether it can be, and the village then -/
def jTh (z : pb_Vg) (t : Nat) : Bool × pb_Vg :=
  if t % 10 = 0 then (jD z (nI (t / 100) - (1 : Int32)) (nI (t / 10 % 10) - (1 : Int32)), jDv z (nI (t / 100) - (1 : Int32)) (nI (t / 10 % 10) - (1 : Int32)))
  else if t % 10 = 1 ∧ t / 100 = 0 then (jR z (nI (t / 10 % 10) - (1 : Int32)), jRv z (nI (t / 10 % 10) - (1 : Int32)))
  else if t % 10 = 2 ∧ t / 100 = 0 then (jK z (nI (t / 10 % 10) - (1 : Int32)), jKv z (nI (t / 10 % 10) - (1 : Int32)))
  else if t = 3 then (true, vPass z) else (false, z)
theorem jTh_ok (hz : vOk M z) (hM : 100 ≤ M) (t : Nat) : vOk (M + 6) (jTh z t).2 := by
  unfold jTh
  split
  · exact (jDv_ok hz hM _ _).mono (by omega)
  · split
    · exact (jRv_ok hz hM _).mono (by omega)
    · split
      · exact (jKv_ok hz hM _).mono (by omega)
      · split
        · exact (hz.pass hM).1
        · exact hz.mono (by omega)
theorem b01 (c : Bool) : (if nI (if c = true then 1 else 0) = (0 : Int32) ∨ nI (if c = true then 1 else 0) = (1 : Int32) then True else False) = True := by cases c <;> simp <;> decide
theorem dec_neg {P : Nat} (hP : P < 1000000) : ((0 : Int32) ≤ nI P - (1 : Int32)) = (P ≠ 0) := by
  cases P with
  | zero => exact propext ⟨fun h => absurd h (by decide), fun h => absurd rfl h⟩
  | succ P =>
    rw [show nI (P + 1) - (1 : Int32) = nI P from pk_sub (show 1 ≤ P + 1 by omega)]
    exact propext ⟨fun _ => by omega, fun _ => (nI_leI (a := 0) (by omega) (by omega)).mpr (by omega)⟩
theorem dec_m1 {P : Nat} (hP : P < 1000000) : (nI P - (1 : Int32) = (-1 : Int32)) = (P = 0) := by
  cases P with
  | zero => exact propext ⟨fun _ => rfl, fun _ => by decide⟩
  | succ P =>
    rw [show nI (P + 1) - (1 : Int32) = nI P from pk_sub (show 1 ≤ P + 1 by omega)]
    refine propext ⟨fun h => ?_, fun h => by omega⟩
    have := congrArg Int32.toInt h
    rw [nI_toInt (by omega), show (-1 : Int32).toInt = -1 from by decide] at this
    omega
theorem c_thing (hc : pb_CR (μ.1 (6 + 1)) 0 z) (hz : vOk M z) (hM : 100 ≤ M) (hM2 : M ≤ 800000) {t : Nat} (ht : t < 1000) : ∃ f, pX6_happens (nI t) μ = some (nI (if (jTh z t).1 = true then 1 else 0), pb_sA μ (6 + 1) f) ∧ pb_CR f 0 (jTh z t).2 := by
  have eH : pb_rem (nI t) (10 : Int32) = nI (t % 10) := q_rem (y := 10) (by omega) (by omega) (by omega)
  have eP : nI t / (100 : Int32) = nI (t / 100) := q_div (y := 100) (by omega) (by omega) (by omega)
  have eB : pb_rem (nI t / (10 : Int32)) (10 : Int32) = nI (t / 10 % 10) := by
    rw [show nI t / (10 : Int32) = nI (t / 10) from q_div (y := 10) (by omega) (by omega) (by omega)]
    exact q_rem (y := 10) (by omega) (by omega) (by omega)
  have hh : ∀ k : Nat, k < 10 → ((nI (t % 10) = nI k) = (t % 10 = k)) := fun k hk => q_eq (by omega) (by omega)
  have d0 := hh 0 (by omega)
  have d1 := hh 1 (by omega)
  have d2 := hh 2 (by omega)
  have d3 := hh 3 (by omega)
  unfold pX6_happens jTh
  rw [eH, eP, eB]
  by_cases h0 : t % 10 = 0
  · obtain ⟨f, g1, g2⟩ := c_jD hc hz (by omega) (nI (t / 100) - (1 : Int32)) (nI (t / 10 % 10) - (1 : Int32))
    rw [if_pos (show nI (t % 10) = (0 : Int32) from d0.mpr h0), if_pos h0, g1, pb_b_some]
    refine ⟨f, ?_, g2⟩
    cases jD z (nI (t / 100) - (1 : Int32)) (nI (t / 10 % 10) - (1 : Int32)) <;> rfl
  · rw [if_neg (show ¬ nI (t % 10) = (0 : Int32) from fun q => h0 (d0.mp q)), if_neg h0]
    simp only [dec_neg (show t / 100 < 1000000 by omega), dec_neg (show t / 10 % 10 < 1000000 by omega)]
    by_cases h1 : t % 10 = 1
    · rw [if_pos (show nI (t % 10) = (1 : Int32) from d1.mpr h1)]
      by_cases h5 : t / 100 = 0
      · obtain ⟨f, g1, g2⟩ := c_jR hc hz (by omega) (nI (t / 10 % 10) - (1 : Int32))
        rw [if_neg (fun q => q h5), if_pos (show t % 10 = 1 ∧ t / 100 = 0 from ⟨h1, h5⟩), g1, pb_b_some]
        refine ⟨f, ?_, g2⟩
        cases jR z (nI (t / 10 % 10) - (1 : Int32)) <;> rfl
      · rw [if_pos h5, if_neg (show ¬ (t % 10 = 1 ∧ t / 100 = 0) from fun q => h5 q.2), if_neg (show ¬ (t % 10 = 2 ∧ t / 100 = 0) from fun q => h5 q.2), if_neg (show ¬ t = 3 by omega)]
        exact ⟨μ.1 (6 + 1), pb_self μ (6 + 1), hc⟩
    · rw [if_neg (show ¬ nI (t % 10) = (1 : Int32) from fun q => h1 (d1.mp q)), if_neg (show ¬ (t % 10 = 1 ∧ t / 100 = 0) from fun q => h1 q.1)]
      by_cases h2 : t % 10 = 2
      · rw [if_pos (show nI (t % 10) = (2 : Int32) from d2.mpr h2)]
        by_cases h5 : t / 100 = 0
        · obtain ⟨f, g1, g2⟩ := c_jK hc hz (by omega) (nI (t / 10 % 10) - (1 : Int32))
          rw [if_neg (fun q => q h5), if_pos (show t % 10 = 2 ∧ t / 100 = 0 from ⟨h2, h5⟩), g1, pb_b_some]
          refine ⟨f, ?_, g2⟩
          cases jK z (nI (t / 10 % 10) - (1 : Int32)) <;> rfl
        · rw [if_pos h5, if_neg (show ¬ (t % 10 = 2 ∧ t / 100 = 0) from fun q => h5 q.2), if_neg (show ¬ t = 3 by omega)]
          exact ⟨μ.1 (6 + 1), pb_self μ (6 + 1), hc⟩
      · rw [if_neg (show ¬ nI (t % 10) = (2 : Int32) from fun q => h2 (d2.mp q)), if_neg (show ¬ (t % 10 = 2 ∧ t / 100 = 0) from fun q => h2 q.1)]
        by_cases h3 : t % 10 = 3
        · rw [if_pos (show nI (t % 10) = (3 : Int32) from d3.mpr h3)]
          by_cases h5 : t = 3
          · obtain ⟨f, g1, g2⟩ := c_pass hc hz hM hM2
            rw [if_neg (show ¬ (t / 100 ≠ 0) by omega), if_neg (show ¬ (t / 10 % 10 ≠ 0) by omega), if_pos h5]
            unfold pX6_passTrialDay
            rw [g1, pb_b_some, pb_b_some, if_neg (by decide)]
            exact ⟨f, rfl, g2⟩
          · rw [if_neg h5]
            by_cases h6 : t / 100 = 0
            · rw [if_neg (fun q => q h6), if_pos (show t / 10 % 10 ≠ 0 by omega)]
              exact ⟨μ.1 (6 + 1), pb_self μ (6 + 1), hc⟩
            · rw [if_pos h6]
              exact ⟨μ.1 (6 + 1), pb_self μ (6 + 1), hc⟩
        · rw [if_neg (show ¬ nI (t % 10) = (3 : Int32) from fun q => h3 (d3.mp q)), if_neg (show ¬ t = 3 by omega)]
          exact ⟨μ.1 (6 + 1), pb_self μ (6 + 1), hc⟩
end TRY
