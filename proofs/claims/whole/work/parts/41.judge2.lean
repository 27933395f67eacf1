section TRY2
variable {K : Nat} {S : pb_S} {μ : pb_M} {z : pb_Vg} {M : Nat}
theorem MM_same {r : Nat → Int32} {z' : pb_Vg} (hm : pb_MM μ 1 z) (hr : pb_MR r (45 * 1) z') (hs : vSame z' z) : pb_MM (pb_sA μ 21 r) 1 z' := hm.with hr hs.1 hs.2.1 hs.2.2
theorem m_self (hm : pb_MM μ 1 z) : some ((0 : Int32), μ) = some (nI 0, pb_sA μ 21 (μ.1 21)) ∧ pb_MM (pb_sA μ 21 (μ.1 21)) 1 z ∧ pb_Fr (μ.1 21) (μ.1 21) 45 := by
  rw [pb_sA_self]
  exact ⟨rfl, hm, pb_Fr.rf⟩
theorem m_J0 {x y : Int32} {k : Nat} (hk : k < 10) (h1 : k ≠ 1) (h2 : k ≠ 2) : pX7_tryThing_J77 x y (nI k) μ = some ((0 : Int32), μ) := by
  unfold pX7_tryThing_J77 pX7_tryThing_J105
  rw [if_neg (show ¬ nI k = (1 : Int32) from fun q => h1 ((nI_eq (b := 1) (by omega) (by omega)).mp q)), if_neg (show ¬ nI k = (2 : Int32) from fun q => h2 ((nI_eq (b := 2) (by omega) (by omega)).mp q))]
theorem m_thing (hm : pb_MM μ 1 z) (hz : vOk M z) (hM : 100 ≤ M) (hM2 : M ≤ 800000) {t : Nat} (ht : t < 1000) : ∃ r, pX7_tryThing (nI t) μ = some (nI (if (jTh z t).1 = true then 1 else 0), pb_sA μ 21 r) ∧ pb_MM (pb_sA μ 21 r) 1 (jTh z t).2 ∧ pb_Fr (μ.1 21) r 45 := by
  have h5 := hz.1.1
  have h6 := hz.1.2
  have hs := hz.s (by omega)
  have eH : pb_rem (nI t) (10 : Int32) = nI (t % 10) := q_rem (y := 10) (by omega) (by omega) (by omega)
  have eP : nI t / (100 : Int32) = nI (t / 100) := q_div (y := 100) (by omega) (by omega) (by omega)
  have eB : pb_rem (nI t / (10 : Int32)) (10 : Int32) = nI (t / 10 % 10) := by
    rw [show nI t / (10 : Int32) = nI (t / 10) from q_div (y := 10) (by omega) (by omega) (by omega)]
    exact q_rem (y := 10) (by omega) (by omega) (by omega)
  have d0 : (nI (t % 10) = nI 0) = (t % 10 = 0) := q_eq (by omega) (by omega)
  unfold pX7_tryThing
  rw [eH, eP, eB]
  by_cases h3 : t = 3
  · subst h3
    have e3 : jTh z 3 = (true, vPass z) := by
      unfold jTh
      rw [if_neg (by decide), if_neg (by decide), if_neg (by decide), if_pos rfl]
    obtain ⟨r, g1, g2, g3⟩ := m_pass hm (by omega) hz hM hM2
    rw [if_pos (show nI 3 = (3 : Int32) from rfl), show (1 : Int32) = nI 1 from rfl, g1, pb_b_some, e3]
    exact ⟨r, rfl, g2, g3⟩
  · rw [if_neg (show ¬ nI t = (3 : Int32) from fun q => h3 ((nI_eq (b := 3) (by omega) (by omega)).mp q)), m_isB hm.2.2.2 h6, pb_b_some]
    unfold jTh
    rw [if_neg h3]
    generalize hy : nI (t / 10 % 10) - (1 : Int32) = y
    by_cases hB : inR y (vB z) = true
    · obtain ⟨b, hb, rfl⟩ := inR_of hB (by omega)
      rw [if_pos hB, if_neg (by decide)]
      by_cases h0 : t % 10 = 0
      · rw [if_pos (show nI (t % 10) = (0 : Int32) from d0.mpr h0), if_pos h0, m_isP hm.2.2.1 h5, pb_b_some]
        generalize nI (t / 100) - (1 : Int32) = x
        unfold jDv jD
        by_cases h1 : inR x (vP z) = true
        · obtain ⟨p, hp, rfl⟩ := inR_of h1 (by omega)
          have hl := vClause_lt z p b
          rw [if_pos h1, if_neg (by decide), nC_nI (by omega), nC_nI (by omega), show (1 : Int32) = nI 1 from rfl, m_clause hm hs (by omega) (show p < 4 by omega) hb h6 (by have := (hz.2.1 b hb).1; omega), pb_b_some]
          by_cases h4 : vClause z p b = 0
          · obtain ⟨r, g1, g2, g3⟩ := m_shut hm.1 (show 1 < 2 by omega) (p := p) (b := b) (by omega)
            rw [h4, if_pos (show nI 0 = (0 : Int32) from rfl), g1, pb_b_some]
            refine ⟨r, ?_, ?_, g3⟩
            · simp [h1, hB]
            · simpa [h1, hB] using MM_same hm g2 (vShut_same (by omega) h6)
          · rw [if_neg (show ¬ nI (vClause z p b) = (0 : Int32) from fun q => h4 ((nI_eq (b := 0) (by omega) (by omega)).mp q)), m_J0 (by omega) (by omega) (by omega)]
            refine ⟨μ.1 21, ?_⟩
            simpa [h4] using m_self hm
        · rw [if_neg h1, if_pos (show nI 0 = (0 : Int32) from rfl), m_J0 (by omega) (by omega) (by omega)]
          refine ⟨μ.1 21, ?_⟩
          simpa [h1] using m_self hm
      · rw [if_neg (show ¬ nI (t % 10) = (0 : Int32) from fun q => h0 (d0.mp q)), if_neg h0]
        by_cases h1 : t % 10 = 1
        · unfold pX7_tryThing_J77 pX7_tryThing_J105
          rw [h1, if_pos (show nI 1 = (1 : Int32) from rfl), if_neg (show ¬ nI 1 = (2 : Int32) from by decide)]
          simp only [dec_m1 (show t / 100 < 1000000 by omega)]
          by_cases h7 : t / 100 = 0
          · rw [if_pos h7, if_pos (show True ∧ t / 100 = 0 from ⟨trivial, h7⟩), show (1 : Int32) = nI 1 from rfl, m_isIn hm.1 hs (by omega) (show b < 5 by omega), pb_b_some]
            unfold jRv jR
            rw [nC_nI (by omega)]
            by_cases h4 : z (42 + b) = 0
            · rw [if_pos h4, if_pos (show nI 0 = (0 : Int32) from rfl), if_neg (show ¬ nI 1 = (2 : Int32) from by decide)]
              refine ⟨μ.1 21, ?_⟩
              simpa [h4] using m_self hm
            · obtain ⟨r, g1, g2, g3⟩ := m_run hm (by omega) hz (by omega) hb h4
              rw [if_neg h4, if_neg (by decide), g1, pb_b_some]
              refine ⟨r, ?_, ?_, g3⟩
              · simp [hB, h4]
              · simpa [hB, h4] using g2
          · rw [if_neg h7, if_neg (show ¬ (True ∧ t / 100 = 0) from fun q => h7 q.2), if_neg (show ¬ (1 = 2 ∧ t / 100 = 0) from fun q => h7 q.2)]
            exact ⟨μ.1 21, m_self hm⟩
        · rw [if_neg (show ¬ (t % 10 = 1 ∧ t / 100 = 0) from fun q => h1 q.1)]
          by_cases h2 : t % 10 = 2
          · unfold pX7_tryThing_J77 pX7_tryThing_J105
            rw [h2, if_neg (show ¬ nI 2 = (1 : Int32) from by decide), if_pos (show nI 2 = (2 : Int32) from rfl)]
            simp only [dec_m1 (show t / 100 < 1000000 by omega)]
            by_cases h7 : t / 100 = 0
            · rw [if_pos h7, if_pos (show True ∧ t / 100 = 0 from ⟨trivial, h7⟩), show (1 : Int32) = nI 1 from rfl, m_canKeep hm.1 hs (by omega) (show b < 5 by omega), pb_b_some]
              unfold jKv jK
              rw [nC_nI (by omega)]
              by_cases h4 : z (42 + b) ≠ 0 ∧ 3 ≤ z (47 + b)
              · obtain ⟨r, g1, g2, g3⟩ := m_keep hm (by omega) hz (by omega) hb h4.1
                rw [if_pos h4, if_neg (by decide), g1, pb_b_some, hB, decide_eq_true h4]
                exact ⟨r, rfl, g2, g3⟩
              · rw [if_neg h4, if_pos (show nI 0 = (0 : Int32) from rfl), decide_eq_false h4, Bool.and_false]
                exact ⟨μ.1 21, m_self hm⟩
            · rw [if_neg h7, if_neg (show ¬ (True ∧ t / 100 = 0) from fun q => h7 q.2)]
              exact ⟨μ.1 21, m_self hm⟩
          · rw [if_neg (show ¬ (t % 10 = 2 ∧ t / 100 = 0) from fun q => h2 q.1), m_J0 (by omega) h1 h2]
            exact ⟨μ.1 21, m_self hm⟩
    · rw [if_neg hB, if_pos (show nI 0 = (0 : Int32) from rfl)]
      refine ⟨μ.1 21, ?_⟩
      have e1 : ∀ x, jD z x y = false := fun x => by unfold jD; simp [hB]
      have e2 : jR z y = false := by unfold jR; simp [hB]
      have e3 : jK z y = false := by unfold jK; simp [hB]
      have q : ∀ (c : Bool × pb_Vg), c = (false, z) → some ((0 : Int32), μ) = some (nI (if c.1 = true then 1 else 0), pb_sA μ 21 (μ.1 21)) ∧ pb_MM (pb_sA μ 21 (μ.1 21)) 1 c.2 ∧ pb_Fr (μ.1 21) (μ.1 21) 45 := fun c hc => by
        rw [hc]
        exact m_self hm
      apply q
      unfold jDv jRv jKv
      simp only [e1, e2, e3]
      split
      · rfl
      · split
        · rfl
        · split
          · rfl
          · rfl
def jLp (g : Nat → Nat) : Nat → Nat → pb_Vg → Int32
  | 0, _, _ => -9
  | c + 1, b, z => if (jTh z (g b)).1 = true then jLp g c (b + 1) (jTh z (g b)).2 else nI b
theorem c_judL {g : Nat → Nat} {k : Nat} (hk : k ≤ 4) (hg : ∀ j, g j < 1000) (h18 : ∀ j, j < k → μ.1 18 j = nI (g j)) : ∀ (c b n M : Nat) (f : Nat → Int32) (z : pb_Vg), b + c = k → c < n → 100 ≤ M → M + 6 * c ≤ 800000 → pb_CR f 0 z → vOk M z → ∃ f', pX6_judge_L84 (nI k) n (nI b) (pb_sA μ (6 + 1) f) = some (jLp g c b z, pb_sA μ (6 + 1) f')
  | _, _, 0, _, _, _, _, hn, _, _, _, _ => by omega
  | 0, b, n + 1, M, f, z, hb, _, hM, hM2, hc, hz => by
    refine ⟨f, ?_⟩
    rw [pX6_judge_L84, if_pos ((nI_leI (by omega) (by omega)).mpr (by omega))]
    rfl
  | c + 1, b, n + 1, M, f, z, hb, hn, hM, hM2, hc, hz => by
    have hc' : pb_CR ((pb_sA μ (6 + 1) f).1 (6 + 1)) 0 z := by rw [pb_sA_eq]; exact hc
    obtain ⟨f1, g1, g2⟩ := c_thing hc' hz hM (by omega) (hg b)
    rw [pb_sA_sA] at g1
    have e18 : (pb_sA μ (6 + 1) f).1 18 b = nI (g b) := by rw [pb_sA_ne (by decide)]; exact h18 b (by omega)
    rw [pX6_judge_L84, if_neg (fun z => (show ¬ k ≤ b by omega) ((nI_leI (by omega) (by omega)).mp z)), if_pos (q_in (by omega) (by omega)), q_cl (by omega), e18, g1, pb_b_some]
    unfold jLp
    by_cases e : (jTh z (g b)).1 = true
    · obtain ⟨f', k1⟩ := c_judL hk hg h18 c (b + 1) n (M + 6) f1 _ (by omega) (by omega) (by omega) (by omega) g2 (jTh_ok hz hM (g b))
      refine ⟨f', ?_⟩
      rw [if_pos e, if_neg (by decide), if_pos e, show (1 : Int32) = nI 1 from rfl, nI_add]
      exact k1
    · refine ⟨f1, ?_⟩
      rw [if_neg e, if_pos (show nI 0 = (0 : Int32) from rfl), if_neg e]
theorem m_tenTo {m : Nat} (hm : m < 100) : pX7_tenTo (nI m) μ = some (nL (10 ^ m), μ) := by
  unfold pX7_tenTo
  have h := (lp_it (fun n b (s : Nat) => pX7_tenTo_L4 (nI m) n (nL s) (nI b) μ) (fun _ s => s * 10) (fun _ _ => True) m (fun s => some (nL s, μ)) (fun n s _ => by
    rw [pX7_tenTo_L4, if_pos ((nI_leI (by omega) (by omega)).mpr (Nat.le_refl _))]) (fun n b s hb _ => ⟨by
    rw [pX7_tenTo_L4, if_neg (fun z => (show ¬ m ≤ b by omega) ((nI_leI (by omega) (by omega)).mp z)), show (10 : Int64) = nL 10 from rfl, nL_mul, show (1 : Int32) = nI 1 from rfl, nI_add], trivial⟩) m 0 pb_F 1 (by omega) (pb_Fgt (by omega)) trivial).1
  rw [it_pow, Nat.one_mul] at h
  exact h
def jG (N k j : Nat) : Nat := N / 10 ^ (3 * (k - 1 - j)) % 1000
theorem p1000 : ∀ m, m < 5 → 10 ^ (3 * m) < 2000000000000 ∧ 0 < 10 ^ (3 * m) ∧ 10 ^ (3 * m) * 1000 = 10 ^ (3 * (m + 1)) := by decide
theorem m_judL {N k : Nat} (hN : N < 2 ^ 63) (hk : k ≤ 4) : ∀ (c b n M : Nat) (r : Nat → Int32) (z : pb_Vg), b + c = k → c < n → 100 ≤ M → M + 6 * c ≤ 800000 → pb_MM (pb_sA μ 21 r) 1 z → vOk M z → ∃ r', pX7_judge_L38 (nI k) (nL N) n (nI b) (pb_sA μ 21 r) = some (jLp (jG N k) c b z, pb_sA μ 21 r') ∧ pb_Fr r r' 45
  | _, _, 0, _, _, _, _, hn, _, _, _, _ => by omega
  | 0, b, n + 1, M, r, z, hb, _, hM, hM2, hc, hz => by
    refine ⟨r, ?_, pb_Fr.rf⟩
    rw [pX7_judge_L38, if_pos ((nI_leI (by omega) (by omega)).mpr (by omega))]
    rfl
  | c + 1, b, n + 1, M, r, z, hb, hn, hM, hM2, hc, hz => by
    obtain ⟨p1, p2, -⟩ := p1000 (k - 1 - b) (by omega)
    have hg : jG N k b < 1000 := Nat.mod_lt _ (by omega)
    obtain ⟨r1, g1, g2, g3⟩ := m_thing hc hz hM (by omega) hg
    rw [pb_sA_sA] at g1 g2
    rw [pb_sA_eq] at g3
    have hd : N / 10 ^ (3 * (k - 1 - b)) < 2 ^ 63 := Nat.lt_of_le_of_lt (Nat.div_le_self _ _) hN
    have e1 : (3 : Int32) * ((nI k - (1 : Int32)) - nI b) = nI (3 * (k - 1 - b)) := by
      rw [show nI k - (1 : Int32) = nI (k - 1) from pk_sub (show 1 ≤ k by omega), pk_sub (show b ≤ k - 1 by omega)]
      exact pk_mul 3 _
    rw [pX7_judge_L38, if_neg (fun z => (show ¬ k ≤ b by omega) ((nI_leI (by omega) (by omega)).mp z)), e1, m_tenTo (by omega), pb_b_some, if_neg (by rw [nL_0 (by omega)]; omega), nL_div hN p2 (by omega), show (1000 : Int64) = nL 1000 from rfl, nL_rem hd (by omega) (by omega), nL_i (by omega), show N / 10 ^ (3 * (k - 1 - b)) % 1000 = jG N k b from rfl, g1, pb_b_some]
    unfold jLp
    by_cases e : (jTh z (jG N k b)).1 = true
    · obtain ⟨r', k1, k2⟩ := m_judL hN hk c (b + 1) n (M + 6) r1 _ (by omega) (by omega) (by omega) (by omega) g2 (jTh_ok hz hM (jG N k b))
      refine ⟨r', ?_, g3.tr k2⟩
      rw [if_pos e, if_neg (by decide), if_pos e, show (1 : Int32) = nI 1 from rfl, nI_add]
      exact k1
    · refine ⟨r1, ?_, g3⟩
      rw [if_neg e, if_pos (show nI 0 = (0 : Int32) from rfl), if_neg e]
theorem c_judR {N k : Nat} (hN : N < 2 ^ 63) (hk : k ≤ 4) (v : Int32) (Kc : Int64 → pb_M → Option (Int32 × pb_M)) : ∀ (c n : Nat) (f : Nat → Int32), c ≤ k → c < n → (∀ j, c ≤ j → j < k → f j = nI (jG N k j)) → ∃ f', pX6_judge_L27 v Kc n (nL (N / 10 ^ (3 * (k - c)))) (nI c - (1 : Int32)) (pb_sA μ 18 f) = Kc (nL (N / 10 ^ (3 * k))) (pb_sA μ 18 f') ∧ ∀ j, j < k → f' j = nI (jG N k j)
  | _, 0, _, _, hn, _ => by omega
  | 0, n + 1, f, _, _, hf => by
    refine ⟨f, ?_, fun j hj => hf j (by omega) hj⟩
    rw [pX6_judge_L27, if_pos (by decide : nI 0 - (1 : Int32) < 0), Nat.sub_zero]
  | c + 1, n + 1, f, hc, hn, hf => by
    obtain ⟨p1, p2, p3⟩ := p1000 (k - (c + 1)) (by omega)
    have hd : N / 10 ^ (3 * (k - (c + 1))) < 2 ^ 63 := Nat.lt_of_le_of_lt (Nat.div_le_self _ _) hN
    have e2 : N / 10 ^ (3 * (k - (c + 1))) / 1000 = N / 10 ^ (3 * (k - c)) := by
      rw [Nat.div_div_eq_div_mul, p3, show k - (c + 1) + 1 = k - c by omega]
    have e3 : N / 10 ^ (3 * (k - (c + 1))) % 1000 = jG N k c := by
      unfold jG
      rw [show k - (c + 1) = k - 1 - c by omega]
    have hg : jG N k c < 1000 := Nat.mod_lt _ (by omega)
    obtain ⟨f', k1, k2⟩ := c_judR hN hk v Kc c n (upd f c (nI (jG N k c))) (by omega) (by omega) (fun j h1 h2 => by
      by_cases e : j = c
      · subst e
        rw [upd_eq]
      · rw [upd_ne e]
        exact hf j (by omega) h2)
    refine ⟨f', ?_, k2⟩
    rw [← k1, show nI (c + 1) - (1 : Int32) = nI c from pk_sub (show 1 ≤ c + 1 by omega), pX6_judge_L27, if_neg (show ¬ nI c < (0 : Int32) from fun z => (show ¬ c < 0 by omega) ((nI_ltI (b := 0) (by omega) (by omega)).mp z)), if_pos (q_in (by omega) (by omega)), q_cl (by omega), pb_sA_sA, pb_sA_eq, show (1000 : Int64) = nL 1000 from rfl, nL_rem hd (by omega) (by omega), nL_div hd (by omega) (by omega), e2, e3, nL_i (by omega), show nI c + (-1 : Int32) = nI c - (1 : Int32) from (Int32.sub_eq_add_neg _ _).symm]
theorem in14 {x : Int32} : ((1 : Int64) ≤ x.toInt64 ∧ x.toInt64 ≤ (4 : Int64)) = ((1 : Int32) ≤ x ∧ x ≤ (4 : Int32)) := by
  rw [show (1 : Int64) = (1 : Int32).toInt64 from rfl, show (4 : Int64) = (4 : Int32).toInt64 from rfl]
  simp only [l_le]
theorem op_judge (hA : InvA K S) (hK : K + 1 ≤ 64) (x : Int32) (w : Int64) : pOp K S (pX6_judge x w) (pX7_judge x w) := by
  have hK2 := hA.1.2
  by_cases h1 : (1 : Int32) ≤ x ∧ x ≤ (4 : Int32)
  · obtain ⟨k, hk, rfl⟩ := nI_of2 (x := x) (M := 4) (n := 4) (by decide) (fun q => by
      have := Int32.lt_iff_toInt_lt.mp q
      have := Int32.le_iff_toInt_le.mp h1.1
      have h0 : (0 : Int32).toInt = 0 := by decide
      have h1' : (1 : Int32).toInt = 1 := by decide
      omega) h1.2
    have hk1 : 1 ≤ k := (nI_leI (a := 1) (by omega) (by omega)).mp h1.1
    have n1 : ¬ nI k < (1 : Int32) := fun z => (show ¬ k < 1 by omega) ((nI_ltI (b := 1) (by omega) (by omega)).mp z)
    have n4 : ¬ (4 : Int32) < nI k := fun z => (show ¬ 4 < k by omega) ((nI_ltI (a := 4) (by omega) (by omega)).mp z)
    have e3 : (3 : Int32) * nI k = nI (3 * k) := pk_mul 3 k
    obtain ⟨p1, p2, -⟩ := p1000 k (by omega)
    by_cases h0 : (0 : Int64) ≤ w
    · obtain ⟨N, hN, rfl⟩ := nL_of h0
      have hj : ((0 : Int64) ≤ nL N ∧ nL N ≤ nL (10 ^ (3 * k)) - (1 : Int64)) = (N / 10 ^ (3 * k) = 0) := by
        rw [show nL (10 ^ (3 * k)) - (1 : Int64) = nL (10 ^ (3 * k) - 1) from nL_sub (b := 1) p2, nL_le hN (by omega)]
        refine propext ⟨fun h => Nat.div_eq_of_lt (by omega), fun h => ⟨h0, ?_⟩⟩
        have := (Nat.div_eq_zero_iff_lt p2).mp h
        omega
      by_cases h2 : N / 10 ^ (3 * k) = 0
      · refine pOp.read hA hK (jLp (jG N k) k 0 S.1) (pC.read fun μ hC => ?_) (pM.read fun μ hM => ?_)
        · unfold pX6_judge
          rw [if_neg n1, if_neg n4, if_pos ((lg_cmp_ge _ _).mpr h0)]
          obtain ⟨f', k1, k2⟩ := c_judR (μ := μ) hN hk (nI k) (fun x4k60 μk60 =>
            if (lg_cmp x4k60 (0 : Int64)) = (0 : Int32) then
              pb_b (pX5_copyFrom 6 4 μk60) (fun b78 μ78 =>
              pX6_judge_L84 (nI k) pb_F (0 : Int32) μ78)
            else
            some ((-2 : Int32), μk60)) k pb_F (μ.1 18) (Nat.le_refl _) (pb_Fgt (by omega)) (fun j h1 h2 => by omega)
          rw [pb_sA_self, Nat.sub_self, Nat.mul_zero, Nat.pow_zero, Nat.div_one] at k1
          have hc5 : pb_CR ((pb_sA μ 18 f').1 5) 0 S.1 := by rw [pb_sA_ne (by decide)]; exact hC.1
          obtain ⟨f, g1, g2⟩ := c_trial hc5
          obtain ⟨f2, j1⟩ := c_judL (μ := pb_sA μ 18 f') (g := jG N k) hk (fun j => Nat.mod_lt _ (by omega)) (fun j hj => by rw [pb_sA_eq]; exact k2 j hj) k 0 pb_F (100 + 10 * K) f S.1 (by omega) (pb_Fgt (by omega)) (by omega) (by omega) g2 hA.1.1
          refine ⟨pb_sA (pb_sA μ 18 f') (6 + 1) f2, ?_, (agC.sA (by omega)).tr (agC.sA (by omega)), (frC.sA (by omega)).tr (frC.sA (by omega))⟩
          refine k1.trans ?_
          rw [h2, if_pos (show lg_cmp (nL 0) (0 : Int64) = (0 : Int32) from (lg_cmp_eq _ _).mpr rfl), g1, pb_b_some]
          exact j1
        · obtain ⟨r, g1, g2, g3⟩ := m_trial hM.1
          obtain ⟨r', k1, k2⟩ := m_judL (μ := μ) hN hk k 0 pb_F (100 + 10 * K) r S.1 (by omega) (pb_Fgt (by omega)) (by omega) (by omega) g2 hA.1.1
          refine ⟨pb_sA μ 21 r', ?_, agM.s21 (g3.tr k2), frM.sA (by omega)⟩
          unfold pX7_judge
          rw [m_in]
          simp only [in14]
          rw [if_pos h1, pb_b_some, if_neg (by decide), e3, m_tenTo (by omega), pb_b_some, m_in]
          simp only [hj]
          rw [if_pos h2, pb_b_some, if_neg (by decide), g1, pb_b_some]
          exact k1
      · refine pOp.read hA hK (-2) (pC.read fun μ hC => ?_) (pM.same fun μ hM => ?_)
        · unfold pX6_judge
          rw [if_neg n1, if_neg n4, if_pos ((lg_cmp_ge _ _).mpr h0)]
          obtain ⟨f', k1, k2⟩ := c_judR (μ := μ) hN hk (nI k) (fun x4k60 μk60 =>
            if (lg_cmp x4k60 (0 : Int64)) = (0 : Int32) then
              pb_b (pX5_copyFrom 6 4 μk60) (fun b78 μ78 =>
              pX6_judge_L84 (nI k) pb_F (0 : Int32) μ78)
            else
            some ((-2 : Int32), μk60)) k pb_F (μ.1 18) (Nat.le_refl _) (pb_Fgt (by omega)) (fun j h1 h2 => by omega)
          rw [pb_sA_self, Nat.sub_self, Nat.mul_zero, Nat.pow_zero, Nat.div_one] at k1
          refine ⟨pb_sA μ 18 f', ?_, agC.sA (by omega), frC.sA (by omega)⟩
          refine k1.trans ?_
          have hd : N / 10 ^ (3 * k) < 2 ^ 63 := Nat.lt_of_le_of_lt (Nat.div_le_self _ _) hN
          rw [if_neg (fun q => h2 (by rw [← nL_0 hd]; exact (lg_cmp_eq _ _).mp q))]
        · unfold pX7_judge
          rw [m_in]
          simp only [in14]
          rw [if_pos h1, pb_b_some, if_neg (by decide), e3, m_tenTo (by omega), pb_b_some, m_in]
          simp only [hj]
          rw [if_neg h2, pb_b_some, if_pos (show nI 0 = (0 : Int32) from rfl)]
    · refine pOp.read hA hK (-2) (pC.same fun μ hC => ?_) (pM.same fun μ hM => ?_)
      · unfold pX6_judge
        rw [if_neg n1, if_neg n4, if_neg (fun q => h0 ((lg_cmp_ge _ _).mp q))]
      · unfold pX7_judge
        rw [m_in]
        simp only [in14]
        rw [if_pos h1, pb_b_some, if_neg (by decide), e3, m_tenTo (by omega), pb_b_some, m_in, if_neg (fun q => h0 q.1), pb_b_some, if_pos (show nI 0 = (0 : Int32) from rfl)]
  · refine pOp.read hA hK (-2) (pC.same fun μ hC => ?_) (pM.same fun μ hM => ?_)
    · unfold pX6_judge
      by_cases h2 : x < (1 : Int32)
      · rw [if_pos h2]
      · rw [if_neg h2, if_pos (Int32.not_le.mp (fun q => h1 ⟨Int32.not_lt.mp h2, q⟩))]
    · unfold pX7_judge
      rw [m_in]
      simp only [in14]
      rw [if_neg h1, pb_b_some, if_pos (show nI 0 = (0 : Int32) from rfl)]
end TRY2
