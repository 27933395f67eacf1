section RING4
variable {K : Nat} {S : pb_S} {μ : pb_M} {a : pb_Vg} {M p : Nat}
def rgE : Option Nat → Int32
  | none => -9
  | some l => nI l
theorem m_lJ (hm : pb_MM μ 0 a) (hz : vOk M a) {v1 v2 v3 : Int32} {S10 : Int32 → Int32 → Int32 → pb_M → Option (Int32 × pb_M)} {met least k d e : Nat} (hmet : met < 32) (hl : least ≤ 100) (hd : d < 20) (he : e < 20) : pX7_leastOf_J66 v1 v2 v3 S10 (nI met) (nI least) (nI k) (nI d - (1 : Int32)) (nI e - (1 : Int32)) μ = if ((1 ≤ d ∧ d ≤ vP a) ∧ (1 ≤ e ∧ e ≤ vP a)) ∧ met.testBit (d - 1) = false ∧ vDebt a (d - 1) (e - 1) ≠ 0 then S10 (nI (met ||| 2 ^ (d - 1))) (nI (min least (vDebt a (d - 1) (e - 1)))) (nI (k + 1)) μ else some ((-9 : Int32), μ) := by
  have hP := hz.1.1
  unfold pX7_leastOf_J66
  rw [m_isP hm.2.2.1 hP, pb_b_some, inR_dec (by omega) (by omega)]
  by_cases h1 : 1 ≤ d ∧ d ≤ vP a
  · rw [decide_eq_true h1, if_pos rfl, if_neg (by decide), m_isP hm.2.2.1 hP, pb_b_some, inR_dec (by omega) (by omega)]
    by_cases h2 : 1 ≤ e ∧ e ≤ vP a
    · obtain ⟨d1, d2, d3⟩ := m_debt0 hm (show d - 1 < 4 by omega) (show e - 1 < 4 by omega)
      have hdl := dle hz (show d - 1 < 4 by omega) (show e - 1 < 4 by omega)
      rw [decide_eq_true h2, if_pos rfl, if_neg (by decide), show nI d - (1 : Int32) = nI (d - 1) from pk_sub h1.1, show nI e - (1 : Int32) = nI (e - 1) from pk_sub h2.1, m_has (by omega) (by omega), pb_b_some]
      by_cases h3 : met.testBit (d - 1) = true
      · rw [if_pos h3, if_neg (by decide), if_neg (fun q => by rw [h3] at q; exact absurd q.2.1 (by decide))]
      · rw [if_neg h3, if_pos (show nI 0 = (0 : Int32) from rfl), d1, pb_b_some, if_pos d2, d3]
        by_cases h4 : vDebt a (d - 1) (e - 1) = 0
        · rw [h4, if_pos (show nI 0 = (0 : Int32) from rfl), if_neg (fun q => q.2.2 rfl)]
        · rw [if_neg (show ¬ nI (vDebt a (d - 1) (e - 1)) = (0 : Int32) from fun q => h4 ((nI_eq (b := 0) (by omega) (by omega)).mp q)), d1, pb_b_some, if_pos d2, d3, q_shl (by omega), q_or, show nI k + (1 : Int32) = nI (k + 1) from nI_add k 1, if_pos (show ((1 ≤ d ∧ d ≤ vP a) ∧ (1 ≤ e ∧ e ≤ vP a)) ∧ met.testBit (d - 1) = false ∧ vDebt a (d - 1) (e - 1) ≠ 0 from ⟨⟨h1, h2⟩, by simpa using h3, h4⟩)]
          by_cases h5 : least ≤ vDebt a (d - 1) (e - 1)
          · rw [if_pos ((nI_leI (by omega) (by omega)).mpr h5), Nat.min_eq_left h5]
          · rw [if_neg (fun z => h5 ((nI_leI (by omega) (by omega)).mp z)), d1, pb_b_some, if_pos d2, d3, Nat.min_eq_right (by omega)]
    · rw [decide_eq_false h2, if_neg (show ¬ false = true from by decide), if_pos (show nI 0 = (0 : Int32) from rfl), if_neg (fun q => h2 q.1.2)]
  · rw [decide_eq_false h1, if_neg (show ¬ false = true from by decide), if_pos (show nI 0 = (0 : Int32) from rfl), if_neg (fun q => h1 q.1.1)]
theorem m_lL (hm : pb_MM μ 0 a) (hz : vOk M a) (hp : p < vP a) {n x : Nat} (hn : n ≤ 4) (hx : x < 2000000000) : ∀ (c k f met least : Nat), k + c = n → c < f → met < 32 → least ≤ 100 → pX7_leastOf_L10 (nI p) (nI x) (nI n) f (nI met) (nI least) (nI k) μ = some (rgE (rgS a p n (rgG n x) c k met least), μ)
  | _, _, 0, _, _, _, hf, _, _ => by omega
  | 0, k, f + 1, met, least, hk, _, hmet, hl => by
    rw [pX7_leastOf_L10, if_pos ((nI_leI (by omega) (by omega)).mpr (by omega))]
    rfl
  | c + 1, k, f + 1, met, least, hk, hf, hmet, hl => by
    have hP := hz.1.1
    have hpw : ∀ m, m < 5 → 10 ^ m < 2000000000 ∧ 0 < 10 ^ m := by decide
    have e10 : (10 : Int32) = nI 10 := rfl
    obtain ⟨w1, w2⟩ := hpw (n - 1 - k) (by omega)
    have hg : rgG n x k < 10 := Nat.mod_lt _ (by omega)
    have hq : pb_rem (nI x / nI (10 ^ (n - 1 - k))) (10 : Int32) = nI (rgG n x k) := by
      rw [q_div hx w2 w1]
      exact q_rem (y := 10) (Nat.lt_of_le_of_lt (Nat.div_le_self _ _) hx) (by omega) (by omega)
    have hpow : pX7_power (10 : Int32) ((nI n - (1 : Int32)) - nI k) μ = some (nI (10 ^ (n - 1 - k)), μ) := by
      rw [show nI n - (1 : Int32) = nI (n - 1) from pk_sub (show 1 ≤ n by omega), pk_sub (show k ≤ n - 1 by omega)]
      exact m_power (x := 10) (by omega)
    have hne : ¬ nI (10 ^ (n - 1 - k)) = 0 := fun q => (show ¬ 10 ^ (n - 1 - k) = 0 by omega) ((nI_eq (b := 0) (by omega) (by omega)).mp q)
    have hnx : rgN p n (rgG n x) k < 20 := by
      unfold rgN
      split
      · omega
      · exact Nat.lt_of_lt_of_le (Nat.mod_lt _ (by omega)) (by omega)
    rw [pX7_leastOf_L10, if_neg (fun z => (show ¬ n ≤ k by omega) ((nI_leI (by omega) (by omega)).mp z)), hpow, pb_b_some, if_neg hne, hq]
    have hmain : pX7_leastOf_J66 (nI p) (nI x) (nI n) (pX7_leastOf_L10 (nI p) (nI x) (nI n) f) (nI met) (nI least) (nI k) (nI (rgG n x k) - (1 : Int32)) (nI (rgN p n (rgG n x) k) - (1 : Int32)) μ = some (rgE (rgS a p n (rgG n x) (c + 1) k met least), μ) := by
      rw [m_lJ hm hz hmet hl (by omega) hnx]
      unfold rgS
      split
      · rename_i h
        exact m_lL hm hz hp hn hx c (k + 1) f _ _ (by omega) (by omega) (Nat.or_lt_two_pow (n := 5) hmet (Nat.pow_lt_pow_right (a := 2) (by decide) (by omega))) (by omega)
      · rfl
    by_cases e : k = n - 1
    · rw [if_pos (show nI k = nI n - (1 : Int32) by rw [show nI n - (1 : Int32) = nI (n - 1) from pk_sub (show 1 ≤ n by omega), e])]
      have er : rgN p n (rgG n x) k = p + 1 := by unfold rgN; rw [if_pos e]
      rw [er, show nI (p + 1) - (1 : Int32) = nI p from pk_sub (show 1 ≤ p + 1 by omega)] at hmain
      exact hmain
    · obtain ⟨w3, w4⟩ := hpw (n - 2 - k) (by omega)
      have hpow2 : pX7_power (10 : Int32) ((nI n - (2 : Int32)) - nI k) μ = some (nI (10 ^ (n - 2 - k)), μ) := by
        rw [show nI n - (2 : Int32) = nI (n - 2) from pk_sub (show 2 ≤ n by omega), pk_sub (show k ≤ n - 2 by omega)]
        exact m_power (x := 10) (by omega)
      have hne2 : ¬ nI (10 ^ (n - 2 - k)) = 0 := fun q => (show ¬ 10 ^ (n - 2 - k) = 0 by omega) ((nI_eq (b := 0) (by omega) (by omega)).mp q)
      have hq2 : pb_rem (nI x / nI (10 ^ (n - 2 - k))) (10 : Int32) = nI (rgG n x (k + 1)) := by
        rw [q_div hx w4 w3]
        unfold rgG
        rw [show n - 1 - (k + 1) = n - 2 - k by omega]
        exact q_rem (y := 10) (Nat.lt_of_le_of_lt (Nat.div_le_self _ _) hx) (by omega) (by omega)
      rw [if_neg (show ¬ nI k = nI n - (1 : Int32) from fun q => by
        rw [show nI n - (1 : Int32) = nI (n - 1) from pk_sub (show 1 ≤ n by omega)] at q
        exact e ((nI_eq (by omega) (by omega)).mp q)), hpow2, pb_b_some, if_neg hne2, hq2]
      have er : rgN p n (rgG n x) k = rgG n x (k + 1) := by unfold rgN; rw [if_neg e]
      rw [er] at hmain
      exact hmain
theorem m_leastOf (hm : pb_MM μ 0 a) (hz : vOk M a) (hp : p < vP a) {n x : Nat} (hn : n ≤ 4) (hx : x < 2000000000) : pX7_leastOf (nI p) (nI x) (nI n) μ = some (rgE (rgQ a p n x), μ) := m_lL hm hz hp hn hx n 0 pb_F 0 100 (by omega) (pb_Fgt (by omega)) (by omega) (by omega)
theorem rgS_le {n : Nat} {g : Nat → Nat} {l : Nat} : ∀ {c k met least : Nat}, rgS a p n g c k met least = some l → l ≤ least
  | 0, k, met, least, h => by cases h; omega
  | c + 1, k, met, least, h => by
    unfold rgS at h
    split at h
    · have := rgS_le h
      omega
    · cases h
theorem rgE_9 {n x : Nat} : (rgE (rgQ a p n x) = (-9 : Int32)) = ((rgQ a p n x).isSome = false) := by
  cases h : rgQ a p n x with
  | none => simp [rgE]
  | some l =>
    have := rgS_le (show rgS a p n (rgG n x) n 0 0 100 = some l from h)
    refine propext ⟨fun q => absurd q (nI_ne9 (by omega)), fun q => by cases q⟩
def pb_16 (μ : pb_M) (v : Int32) : pb_M := pb_sA μ 19 (upd (μ.1 19) 16 v)
theorem pb_16_16 {v w : Int32} : pb_16 (pb_16 μ v) w = pb_16 μ w := by
  unfold pb_16
  rw [pb_sA_sA, pb_sA_eq, upd_upd]
theorem pb_16_at {v : Int32} : (pb_16 μ v).1 19 16 = v := by
  unfold pb_16
  rw [pb_sA_eq, upd_eq]
theorem pb_16_m (hm : pb_MM μ 0 a) {v : Int32} : pb_MM (pb_16 μ v) 0 a := by
  unfold pb_16 pb_MM
  rw [pb_sA_ne (by decide), pb_sA_ne (by decide), pb_sA_eq, upd_ne (by decide), upd_ne (by decide)]
  exact hm
theorem m_ringI (hm : pb_MM μ 0 a) (hz : vOk M a) (hp : p < vP a) {n : Nat} (hn : n = 2 ∨ n = 3 ∨ n = 4) (Kc : pb_M → Option (Int32 × pb_M)) : ∀ (c x f : Nat) (v : Int32), x + c = (p + 1) * 10 ^ (n - 1) + 10 ^ (n - 1) → c < f → ∃ v', (∀ y, pb_fst (fun x => (rgQ a p n x).isSome) c x = some y → pX7_layRing_L23 (nI p) (nI n) (nI ((p + 1) * 10 ^ (n - 1))) Kc f (nI x) (pb_16 μ v) = some (nI y, pb_16 μ (rgE (rgQ a p n y)))) ∧ (pb_fst (fun x => (rgQ a p n x).isSome) c x = none → pX7_layRing_L23 (nI p) (nI n) (nI ((p + 1) * 10 ^ (n - 1))) Kc f (nI x) (pb_16 μ v) = Kc (pb_16 μ v'))
  | _, _, 0, _, _, hf => by omega
  | 0, x, f + 1, v, hx, _ => by
    have hP := hz.1.1
    have hpw : ∀ m, m < 5 → 10 ^ m ≤ 10000 := by decide
    have w1 := hpw (n - 1) (by omega)
    have w2 : (p + 1) * 10 ^ (n - 1) ≤ 4 * 10000 := Nat.mul_le_mul (by omega) w1
    refine ⟨v, (fun y h => by cases h), fun _ => ?_⟩
    have hpow : pX7_power (10 : Int32) (nI n - (1 : Int32)) (pb_16 μ v) = some (nI (10 ^ (n - 1)), pb_16 μ v) := by
      rw [show nI n - (1 : Int32) = nI (n - 1) from pk_sub (show 1 ≤ n by omega)]
      exact m_power (x := 10) (by omega)
    rw [pX7_layRing_L23, hpow, pb_b_some, nI_add, if_pos ((nI_leI (by omega) (by omega)).mpr (by omega))]
  | c + 1, x, f + 1, v, hx, hf => by
    have hP := hz.1.1
    have hpw : ∀ m, m < 5 → 10 ^ m ≤ 10000 := by decide
    have w1 := hpw (n - 1) (by omega)
    have w2 : (p + 1) * 10 ^ (n - 1) ≤ 4 * 10000 := Nat.mul_le_mul (by omega) w1
    have hpow : pX7_power (10 : Int32) (nI n - (1 : Int32)) (pb_16 μ v) = some (nI (10 ^ (n - 1)), pb_16 μ v) := by
      rw [show nI n - (1 : Int32) = nI (n - 1) from pk_sub (show 1 ≤ n by omega)]
      exact m_power (x := 10) (by omega)
    have hst : pX7_layRing_L23 (nI p) (nI n) (nI ((p + 1) * 10 ^ (n - 1))) Kc (f + 1) (nI x) (pb_16 μ v) = if (rgQ a p n x).isSome = true then some (nI x, pb_16 μ (rgE (rgQ a p n x))) else pX7_layRing_L23 (nI p) (nI n) (nI ((p + 1) * 10 ^ (n - 1))) Kc f (nI (x + 1)) (pb_16 μ (rgE (rgQ a p n x))) := by
      rw [pX7_layRing_L23, hpow, pb_b_some, nI_add, if_neg (fun z => (show ¬ (p + 1) * 10 ^ (n - 1) + 10 ^ (n - 1) ≤ x by omega) ((nI_leI (by omega) (by omega)).mp z)), m_leastOf (pb_16_m hm) hz hp (by omega) (by omega), pb_b_some, show ∀ w, pb_sA (pb_16 μ v) 19 (upd ((pb_16 μ v).1 19) 16 w) = pb_16 μ w from fun w => pb_16_16, pb_16_at, show nI x + (1 : Int32) = nI (x + 1) from nI_add x 1]
      simp only [rgE_9]
      cases (rgQ a p n x).isSome <;> rfl
    rw [hst]
    unfold pb_fst
    by_cases e : (rgQ a p n x).isSome = true
    · rw [if_pos e, if_pos e]
      exact ⟨v, (fun y h => by cases h; rfl), fun h => by cases h⟩
    · rw [if_neg e, if_neg e]
      exact m_ringI hm hz hp hn Kc c (x + 1) f _ (by omega) (by omega)
def rgX (a : pb_Vg) (p : Nat) : Nat → Nat → Int32 × Int32
  | 0, _ => (-9, -9)
  | c + 1, n => match pb_fst (fun x => (rgQ a p n x).isSome) (10 ^ (n - 1)) ((p + 1) * 10 ^ (n - 1)) with
    | some y => (nI y, rgE (rgQ a p n y))
    | none => rgX a p c (n + 1)
theorem m_ringO (hm : pb_MM μ 0 a) (hz : vOk M a) (hp : p < vP a) : ∀ (c n f : Nat) (v : Int32), n + c = 5 → 2 ≤ n → c < f → pX7_layRing_L2 (nI p) f (nI n) (pb_16 μ v) = some ((rgX a p c n).1, pb_16 μ (rgX a p c n).2)
  | _, _, 0, _, _, _, hf => by omega
  | 0, n, f + 1, v, hn, _, _ => by
    rw [pX7_layRing_L2, if_pos (show (5 : Int32) ≤ nI n from (nI_leI (a := 5) (by omega) (by omega)).mpr (by omega)), show ∀ w, pb_sA (pb_16 μ v) 19 (upd ((pb_16 μ v).1 19) 16 w) = pb_16 μ w from fun w => pb_16_16]
    rfl
  | c + 1, n, f + 1, v, hn, h2, hf => by
    have hP := hz.1.1
    have hpw : ∀ m, m < 4 → 10 ^ m ≤ 1000 := by decide
    have w1 := hpw (n - 1) (by omega)
    have hpow : pX7_power (10 : Int32) (nI n - (1 : Int32)) (pb_16 μ v) = some (nI (10 ^ (n - 1)), pb_16 μ v) := by
      rw [show nI n - (1 : Int32) = nI (n - 1) from pk_sub (show 1 ≤ n by omega)]
      exact m_power (x := 10) (by omega)
    rw [pX7_layRing_L2, if_neg (show ¬ (5 : Int32) ≤ nI n from fun z => (show ¬ 5 ≤ n by omega) ((nI_leI (a := 5) (by omega) (by omega)).mp z)), hpow, pb_b_some, show nI p + (1 : Int32) = nI (p + 1) from nI_add p 1, pk_mul, show nI n + (1 : Int32) = nI (n + 1) from nI_add n 1]
    obtain ⟨v', g1, g2⟩ := m_ringI hm hz hp (n := n) (by omega) (fun μk68 => pX7_layRing_L2 (nI p) f (nI (n + 1)) μk68) (10 ^ (n - 1)) ((p + 1) * 10 ^ (n - 1)) pb_F v rfl (pb_Fgt (by omega))
    unfold rgX
    cases e : pb_fst (fun x => (rgQ a p n x).isSome) (10 ^ (n - 1)) ((p + 1) * 10 ^ (n - 1)) with
    | some y => exact g1 y e
    | none => exact (g2 e).trans (m_ringO hm hz hp c (n + 1) f v' (by omega) (by omega) (by omega))
/-- both find the same ring -/
theorem rg_main (hz : vOk M a) (hp : p < vP a) : rgX a p 3 2 = match pb_fst (fun k => (rgL a p k).testBit p) (vP a) 1 with
    | none => (-9, -9)
    | some k => (nI (rgF a p k), nI (rgD a p k)) := by
  have hP := hz.1.1
  have hmiss : ∀ n, (n = 2 ∨ n = 3 ∨ n = 4) → ¬ (rgL a p n).testBit p = true → pb_fst (fun x => (rgQ a p n x).isSome) (10 ^ (n - 1)) ((p + 1) * 10 ^ (n - 1)) = none := fun n hn hw => pb_fst_no fun y h1 h2 => rg_miss hz (by omega) hn hw ⟨h1, h2⟩
  have hhit : ∀ n, (rgI n p (rgF a p n) ∧ rgQ a p n (rgF a p n) = some (rgD a p n) ∧ ∀ y, rgI n p y → y < rgF a p n → (rgQ a p n y).isSome = false) → ∀ c, rgX a p (c + 1) n = (nI (rgF a p n), nI (rgD a p n)) := fun n h c => by
    have e : pb_fst (fun x => (rgQ a p n x).isSome) (10 ^ (n - 1)) ((p + 1) * 10 ^ (n - 1)) = some (rgF a p n) := pb_fst_eq h.1.1 h.1.2 (by show (rgQ a p n (rgF a p n)).isSome = true; rw [h.2.1]; rfl) (fun y h1 h2 => h.2.2 y ⟨h1, by have := h.1.2; omega⟩ h2)
    unfold rgX
    rw [e]
    show (nI (rgF a p n), rgE (rgQ a p n (rgF a p n))) = _
    rw [h.2.1]
    rfl
  have hstep : ∀ n c, pb_fst (fun x => (rgQ a p n x).isSome) (10 ^ (n - 1)) ((p + 1) * 10 ^ (n - 1)) = none → rgX a p (c + 1) n = rgX a p c (n + 1) := fun n c h => by
    show (match pb_fst (fun x => (rgQ a p n x).isSome) (10 ^ (n - 1)) ((p + 1) * 10 ^ (n - 1)) with
    | some y => (nI y, rgE (rgQ a p n y))
    | none => rgX a p c (n + 1)) = _
    rw [h]
  cases e : pb_fst (fun k => (rgL a p k).testBit p) (vP a) 1 with
  | none =>
    have hn := pb_fst_none e
    have hw : ∀ n, (n = 2 ∨ n = 3 ∨ n = 4) → ¬ (rgL a p n).testBit p = true := fun n h1 h2 => by
      obtain ⟨k, k1, k2, k3, k4⟩ := rg_P hz hp h1 h2
      have := hn k (by omega) (by omega)
      rw [k4] at this
      cases this
    rw [hstep 2 2 (hmiss 2 (by omega) (hw 2 (by omega))), hstep 3 1 (hmiss 3 (by omega) (hw 3 (by omega))), hstep 4 0 (hmiss 4 (by omega) (hw 4 (by omega)))]
    rfl
  | some k =>
    obtain ⟨k1, k2, k3, k4⟩ := pb_fst_some e
    have hk1 : k ≠ 1 := fun q => rW1 (p := p) hz (by omega) (by rw [q] at k3; exact k3)
    have hno : ∀ n, 1 ≤ n → n < k → ¬ (rgL a p n).testBit p = true := fun n h1 h2 h3 => by
      have := k4 n h1 h2
      rw [h3] at this
      cases this
    rcases (show k = 2 ∨ k = 3 ∨ k = 4 by omega) with rfl | rfl | rfl
    · exact hhit 2 (rg_hit2 hz hp k3) 2
    · rw [hstep 2 2 (hmiss 2 (by omega) (hno 2 (by omega) (by omega)))]
      exact hhit 3 (rg_hit3 hz hp k3) 1
    · rw [hstep 2 2 (hmiss 2 (by omega) (hno 2 (by omega) (by omega))), hstep 3 1 (hmiss 3 (by omega) (hno 3 (by omega) (by omega)))]
      exact hhit 4 (rg_hit4 hz hp k3 (hno 2 (by omega) (by omega))) 0
theorem m_ring (hm : pb_MM μ 0 a) (hz : vOk M a) (hp : p < vP a) : pX7_layRing (nI p) μ = some ((rgX a p 3 2).1, pb_16 μ (rgX a p 3 2).2) := by
  have := m_ringO hm hz hp 3 2 pb_F (μ.1 19 16) (by omega) (by omega) (pb_Fgt (by omega))
  have e : pb_16 μ (μ.1 19 16) = μ := by
    unfold pb_16
    have : upd (μ.1 19) 16 (μ.1 19 16) = μ.1 19 := by
      funext j
      by_cases e : j = 16
      · rw [e, upd_eq]
      · rw [upd_ne e]
    rw [this, pb_sA_self]
  rw [e] at this
  exact this
theorem op_ring (hA : InvA K S) (hK : K + 1 ≤ 64) (x : Int32) : pOp K S (pX6_ring x) (pX7_ring x) := by
  have hP := hA.1.1.1.1
  by_cases h1 : inR x (vP S.1) = true
  · obtain ⟨p, hp, rfl⟩ := inR_of h1 (by omega)
    refine pOp.read hA hK (rgX S.1 p 3 2).1 (pC.read fun μ hC => ?_) (pM.read fun μ hM => ?_)
    · have hc4 : pb_CR (μ.1 (4 + 1)) 0 S.1 := hC.1
      obtain ⟨μ1, ⟨g1, g2, -⟩, g3, g4⟩ := c_find hC.1 hA.1.1 hp
      refine ⟨μ1, ?_, g1, g2⟩
      unfold pX6_ring
      rw [c_hasP hc4, if_pos h1, pb_b_some, if_neg (by decide), rg_main hA.1.1 hp]
      cases e : pb_fst (fun k => (rgL S.1 p k).testBit p) (vP S.1) 1 with
      | none => rw [g3 e, pb_b_some, if_pos rfl]
      | some k =>
        obtain ⟨k1, k2, -, -⟩ := pb_fst_some e
        obtain ⟨q1, q2, q3⟩ := g4 k e
        rw [q1, pb_b_some, if_neg (by decide), c_figs (a := S.1) (p := p) (by omega) q2 q3, pb_b_some]
    · refine ⟨pb_16 μ (rgX S.1 p 3 2).2, ?_, agM.s19 (by omega), frM.sA (by omega)⟩
      unfold pX7_ring
      rw [m_isP hM.1.2.2.1 hP, if_pos h1, pb_b_some, if_neg (by decide), m_ring hM.1 hA.1.1 hp, pb_b_some]
  · refine pOp.read hA hK (-1) (pC.same fun μ hC => ?_) (pM.same fun μ hM => ?_)
    · have hc4 : pb_CR (μ.1 (4 + 1)) 0 S.1 := hC.1
      unfold pX6_ring
      rw [c_hasP hc4, if_neg h1, pb_b_some, if_pos (show nI 0 = (0 : Int32) from rfl)]
    · unfold pX7_ring
      rw [m_isP hM.1.2.2.1 hP, if_neg h1, pb_b_some, if_pos (show nI 0 = (0 : Int32) from rfl)]
theorem op_close (hA : InvA K S) (hK : K + 1 ≤ 64) (x : Int32) : pOp K S (pX6_close x) (pX7_close x) := by
  have hP := hA.1.1.1.1
  by_cases h1 : inR x (vP S.1) = true
  · obtain ⟨p, hp, rfl⟩ := inR_of h1 (by omega)
    refine pOp.read hA hK (rgX S.1 p 3 2).2 (pC.read fun μ hC => ?_) (pM.read fun μ hM => ?_)
    · have hc4 : pb_CR (μ.1 (4 + 1)) 0 S.1 := hC.1
      obtain ⟨μ1, ⟨g1, g2, g5⟩, g3, g4⟩ := c_find hC.1 hA.1.1 hp
      refine ⟨μ1, ?_, g1, g2⟩
      have hc5 : pb_CR (μ1.1 (4 + 1)) 0 S.1 := by rw [show μ1.1 (4 + 1) = μ.1 5 from g5]; exact hC.1
      unfold pX6_close
      rw [c_hasP hc4, if_pos h1, pb_b_some, if_neg (by decide), rg_main hA.1.1 hp]
      cases e : pb_fst (fun k => (rgL S.1 p k).testBit p) (vP S.1) 1 with
      | none => rw [g3 e, pb_b_some, if_pos rfl]
      | some k =>
        obtain ⟨k1, k2, -, -⟩ := pb_fst_some e
        obtain ⟨q1, q2, q3⟩ := g4 k e
        rw [q1, pb_b_some, if_neg (by decide), c_least hc5 hA.1.1 hp (by omega) (by omega) q2 q3, pb_b_some]
    · refine ⟨pb_16 μ (rgX S.1 p 3 2).2, ?_, agM.s19 (by omega), frM.sA (by omega)⟩
      unfold pX7_close
      rw [m_isP hM.1.2.2.1 hP, if_pos h1, pb_b_some, if_neg (by decide), m_ring hM.1 hA.1.1 hp, pb_b_some, pb_16_at]
  · refine pOp.read hA hK (-1) (pC.same fun μ hC => ?_) (pM.same fun μ hM => ?_)
    · have hc4 : pb_CR (μ.1 (4 + 1)) 0 S.1 := hC.1
      unfold pX6_close
      rw [c_hasP hc4, if_neg h1, pb_b_some, if_pos (show nI 0 = (0 : Int32) from rfl)]
    · unfold pX7_close
      rw [m_isP hM.1.2.2.1 hP, if_neg h1, pb_b_some, if_pos (show nI 0 = (0 : Int32) from rfl)]
end RING4
