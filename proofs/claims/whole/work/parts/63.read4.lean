/-! the reference reads the text -/
section READ4
variable {K : Nat} {S : pb_S} {μ μ1 μ2 : pb_M} {z : pb_Vg} {M : Nat} {t : Nat → Nat} {L p : Nat}
def pb_TM (μ : pb_M) (t : Nat → Nat) (L : Nat) : Prop := μ.1 19 9 = nI L ∧ ∀ j, j < L → μ.1 24 j = nI (t j)
def FR (μ μ1 : pb_M) : Prop := (∀ h, h ≠ 19 → μ1.1 h = μ.1 h) ∧ (∀ j, j ≠ 10 → j ≠ 11 → μ1.1 19 j = μ.1 19 j) ∧ μ1.2 = μ.2
def GR (μ μ1 : pb_M) : Prop := (∀ h, h ≠ 19 → h ≠ 22 → h ≠ 23 → μ1.1 h = μ.1 h) ∧ (∀ j, j ≠ 6 → j ≠ 7 → j ≠ 10 → j ≠ 11 → μ1.1 19 j = μ.1 19 j) ∧ μ1.2 = μ.2
theorem FR.gr (h : FR μ μ1) : GR μ μ1 := ⟨fun k h1 _ _ => h.1 k h1, fun j _ _ h3 h4 => h.2.1 j h3 h4, h.2.2⟩
theorem GR.rf : GR μ μ := ⟨fun _ _ _ _ => rfl, fun _ _ _ _ _ => rfl, rfl⟩
theorem GR.tr (h : GR μ μ1) (g : GR μ1 μ2) : GR μ μ2 := ⟨fun k h1 h2 h3 => (g.1 k h1 h2 h3).trans (h.1 k h1 h2 h3), fun j h1 h2 h3 h4 => (g.2.1 j h1 h2 h3 h4).trans (h.2.1 j h1 h2 h3 h4), g.2.2.trans h.2.2⟩
theorem GR.ag (h : GR μ μ1) : agM μ μ1 := ⟨⟨h.1 20 (by omega) (by omega) (by omega), h.1 24 (by omega) (by omega) (by omega), h.1 25 (by omega) (by omega) (by omega), h.1 28 (by omega) (by omega) (by omega), h.1 29 (by omega) (by omega) (by omega)⟩, ⟨h.2.1 0 (by omega) (by omega) (by omega) (by omega), h.2.1 1 (by omega) (by omega) (by omega) (by omega), h.2.1 9 (by omega) (by omega) (by omega) (by omega), h.2.1 12 (by omega) (by omega) (by omega) (by omega), h.2.1 13 (by omega) (by omega) (by omega) (by omega)⟩, fun j _ => by rw [h.1 21 (by omega) (by omega) (by omega)], by rw [h.2.2]⟩
theorem GR.fr (h : GR μ μ1) : frM μ μ1 := ⟨fun k hk => h.1 k (by omega) (by omega) (by omega), by rw [h.2.2]⟩
theorem GR.s22 {f : Nat → Int32} : GR μ (pb_sA μ 22 f) := ⟨fun k h1 h2 h3 => pb_sA_ne h2, fun j _ _ _ _ => by rw [pb_sA_ne (by decide)], rfl⟩
theorem GR.s23 {f : Nat → Int32} : GR μ (pb_sA μ 23 f) := ⟨fun k h1 h2 h3 => pb_sA_ne h3, fun j _ _ _ _ => by rw [pb_sA_ne (by decide)], rfl⟩
theorem GR.s19 {k : Nat} {v : Int32} (hk : k = 6 ∨ k = 7 ∨ k = 10 ∨ k = 11) : GR μ (pb_sA μ 19 (upd (μ.1 19) k v)) := ⟨fun h h1 h2 h3 => pb_sA_ne h1, fun j h1 h2 h3 h4 => by rw [pb_sA_eq, upd_ne (by omega)], rfl⟩
theorem FR.s19 {k : Nat} {v : Int32} (hk : k = 10 ∨ k = 11) : FR μ (pb_sA μ 19 (upd (μ.1 19) k v)) := ⟨fun h h1 => pb_sA_ne h1, fun j h1 h2 => by rw [pb_sA_eq, upd_ne (by omega)], rfl⟩
theorem TM_gr (h : pb_TM μ t L) (g : GR μ μ1) : pb_TM μ1 t L := by
  unfold pb_TM
  rw [g.2.1 9 (by omega) (by omega) (by omega) (by omega), g.1 24 (by omega) (by omega) (by omega)]
  exact h
/-- where the reader stands: at a fault, or ahead of a letter -/
def FS (μ : pb_M) : Sum Nat Nat → Prop
  | .inl q => μ.1 19 11 = nI q ∧ q ≤ 60
  | .inr q => μ.1 19 10 = nI q ∧ μ.1 19 11 = -9 ∧ q ≤ 60
theorem FS_at {st : Sum Nat Nat} (h : FS μ st) (h10 : μ1.1 19 10 = μ.1 19 10) (h11 : μ1.1 19 11 = μ.1 19 11) : FS μ1 st := by
  cases st with
  | inl q => exact ⟨by rw [h11]; exact h.1, h.2⟩
  | inr q => exact ⟨by rw [h10]; exact h.1, by rw [h11]; exact h.2.1, h.2.2⟩
def fn2 (bad : Bool) : Sum Nat Nat → Sum Nat Nat
  | .inl q => .inl q
  | .inr q => if bad = true then .inl q else .inr (q + 1)
def fv2 (bad : Bool) (lo v : Nat) : Sum Nat Nat → Nat
  | .inl _ => lo
  | .inr _ => if bad = true then lo else v
theorem ne9 {q : Nat} (h : q ≤ 60) : ¬ nI q = (-9 : Int32) := nI_ne9 (by omega)
theorem m_J37 {lo hi : Nat} {x : Int32} (hlo : lo ≤ 9) (hhi : hi ≤ 9) : pX7_figure_J37 (nI lo) (nI hi) x μ = if nI lo ≤ x ∧ x ≤ nI hi then some (x, pb_sA μ 19 (upd (μ.1 19) 10 (μ.1 19 10 + (1 : Int32)))) else if μ.1 19 11 = (-9 : Int32) then some (nI lo, pb_sA μ 19 (upd (μ.1 19) 11 (μ.1 19 10))) else some (nI lo, pb_sA μ 19 (upd (μ.1 19) 11 (μ.1 19 11))) := by
  unfold pX7_figure_J37
  rw [m_in, pb_b_some]
  simp only [l_le]
  by_cases h : nI lo ≤ x ∧ x ≤ nI hi
  · rw [if_pos h, if_neg (by decide), if_pos h]
  · rw [if_neg h, if_pos (show nI 0 = (0 : Int32) from rfl), if_neg h]
theorem m_J37n {lo hi : Nat} (hlo : lo ≤ 9) (hhi : hi ≤ 9) : ¬ (nI lo ≤ (-9 : Int32) ∧ (-9 : Int32) ≤ nI hi) := fun h => by
  have := Int32.le_iff_toInt_le.mp h.1
  rw [nI_toInt (by omega), show (-9 : Int32).toInt = -9 from by decide] at this
  omega
theorem m_fig (ht : pb_TM μ t L) (hL : L ≤ 56) (h255 : ∀ j, j < L → t j ≤ 255) {lo hi k : Nat} (hlo : lo ≤ 9) (hhi : hi ≤ 9) {st : Sum Nat Nat} (hst : FS μ st) (hq : ∀ q, st = .inr q → q = p + 1 + k) (hok : st = .inr (p + 1 + k) → p + 1 + k < L → decide (48 + lo ≤ t (p + 1 + k) ∧ t (p + 1 + k) ≤ 48 + hi) = fgd t z p k) : ∃ μ1, pX7_figure (nI lo) (nI hi) μ = some (nI (fv2 (fbad t L z p k) lo (t (p + 1 + k) - 48) st), μ1) ∧ FS μ1 (fn2 (fbad t L z p k) st) ∧ FR μ μ1 := by
  cases st with
  | inl q =>
    refine ⟨pb_sA μ 19 (upd (μ.1 19) 11 (μ.1 19 11)), ?_, ?_, FR.s19 (by omega)⟩
    · unfold pX7_figure pX7_figure_J35
      rw [hst.1, if_neg (ne9 hst.2), m_J37 hlo hhi, if_neg (m_J37n hlo hhi), hst.1, if_neg (ne9 hst.2)]
      rfl
    · exact ⟨by rw [pb_sA_eq, upd_eq]; exact hst.1, hst.2⟩
  | inr q =>
    have hqq := hq q rfl
    subst hqq
    obtain ⟨s1, s2, s3⟩ := hst
    unfold pX7_figure pX7_figure_J35
    rw [if_pos s2, ht.1, s1]
    by_cases e : L ≤ p + 1 + k
    · have hbad : fbad t L z p k = true := by unfold fbad; rw [decide_eq_true e, Bool.true_or]
      refine ⟨pb_sA μ 19 (upd (μ.1 19) 11 (nI (p + 1 + k))), ?_, ?_, FR.s19 (by omega)⟩
      · rw [if_pos ((nI_leI (by omega) (by omega)).mpr e), m_J37 hlo hhi, if_neg (m_J37n hlo hhi), if_pos s2, s1, hbad]
        rfl
      · rw [hbad]
        exact ⟨by rw [pb_sA_eq, upd_eq], s3⟩
    · have hx := h255 (p + 1 + k) (by omega)
      have ex : (nI (t (p + 1 + k)) - (48 : Int32)).toInt = (t (p + 1 + k) : Int) - 48 := pk_sub_toInt (b := 48) (by omega) (by omega)
      have hcond : (nI lo ≤ nI (t (p + 1 + k)) - (48 : Int32) ∧ nI (t (p + 1 + k)) - (48 : Int32) ≤ nI hi) = (48 + lo ≤ t (p + 1 + k) ∧ t (p + 1 + k) ≤ 48 + hi) := by
        rw [Int32.le_iff_toInt_le, Int32.le_iff_toInt_le, ex, nI_toInt (by omega), nI_toInt (by omega)]
        exact propext ⟨fun h => by omega, fun h => by omega⟩
      have hk := hok rfl (by omega)
      have hbad : fbad t L z p k = !(decide (48 + lo ≤ t (p + 1 + k) ∧ t (p + 1 + k) ≤ 48 + hi)) := by
        unfold fbad
        rw [decide_eq_false e, Bool.false_or, hk]
      rw [if_neg (fun y => e ((nI_leI (by omega) (by omega)).mp y)), if_pos (q_in (by omega) (by omega)), q_cl (by omega), ht.2 _ (by omega), m_J37 hlo hhi, hbad, s1, if_pos s2]
      simp only [hcond]
      by_cases r : 48 + lo ≤ t (p + 1 + k) ∧ t (p + 1 + k) ≤ 48 + hi
      · rw [if_pos r, decide_eq_true r, show nI (p + 1 + k) + (1 : Int32) = nI (p + 1 + k + 1) from nI_add _ 1, show nI (t (p + 1 + k)) - (48 : Int32) = nI (t (p + 1 + k) - 48) from pk_sub (show 48 ≤ t (p + 1 + k) by omega)]
        exact ⟨_, rfl, ⟨by rw [pb_sA_eq, upd_eq], by rw [pb_sA_eq, upd_ne (by decide)]; exact s2, by omega⟩, FR.s19 (by omega)⟩
      · rw [if_neg r, decide_eq_false r]
        exact ⟨_, rfl, ⟨by rw [pb_sA_eq, upd_eq], s3⟩, FR.s19 (by omega)⟩
theorem m_fJ58 : pX7_figureOf_J58 μ = if μ.1 19 11 = (-9 : Int32) then some (nI 0, pb_sA μ 19 (upd (μ.1 19) 11 (μ.1 19 10))) else some (nI 0, pb_sA μ 19 (upd (μ.1 19) 11 (μ.1 19 11))) := rfl
theorem m_fof (ht : pb_TM μ t L) (hL : L ≤ 56) (h255 : ∀ j, j < L → t j ≤ 255) {X k : Nat} (hX : X < 32) {st : Sum Nat Nat} (hst : FS μ st) (hq : ∀ q, st = .inr q → q = p + 1 + k) (hok : st = .inr (p + 1 + k) → p + 1 + k < L → (decide (48 ≤ t (p + 1 + k) ∧ t (p + 1 + k) ≤ 57) && X.testBit (t (p + 1 + k) - 48)) = fgd t z p k) : ∃ μ1, pX7_figureOf (nI X) μ = some (nI (fv2 (fbad t L z p k) 0 (t (p + 1 + k) - 48) st), μ1) ∧ FS μ1 (fn2 (fbad t L z p k) st) ∧ FR μ μ1 := by
  have h9 : ¬ ((0 : Int64) ≤ (-9 : Int32).toInt64 ∧ (-9 : Int32).toInt64 ≤ (9 : Int64)) := by decide
  cases st with
  | inl q =>
    refine ⟨pb_sA μ 19 (upd (μ.1 19) 11 (μ.1 19 11)), ?_, ?_, FR.s19 (by omega)⟩
    · unfold pX7_figureOf pX7_figureOf_J35 pX7_figureOf_J37
      rw [hst.1, if_neg (ne9 hst.2), m_in, if_neg h9, pb_b_some, if_pos (show nI 0 = (0 : Int32) from rfl), m_fJ58, hst.1, if_neg (ne9 hst.2)]
      rfl
    · exact ⟨by rw [pb_sA_eq, upd_eq]; exact hst.1, hst.2⟩
  | inr q =>
    have hqq := hq q rfl
    subst hqq
    obtain ⟨s1, s2, s3⟩ := hst
    unfold pX7_figureOf pX7_figureOf_J35 pX7_figureOf_J37
    rw [if_pos s2, ht.1, s1]
    by_cases e : L ≤ p + 1 + k
    · have hbad : fbad t L z p k = true := by unfold fbad; rw [decide_eq_true e, Bool.true_or]
      refine ⟨pb_sA μ 19 (upd (μ.1 19) 11 (nI (p + 1 + k))), ?_, ?_, FR.s19 (by omega)⟩
      · rw [if_pos ((nI_leI (by omega) (by omega)).mpr e), m_in, if_neg h9, pb_b_some, if_pos (show nI 0 = (0 : Int32) from rfl), m_fJ58, if_pos s2, s1, hbad]
        rfl
      · rw [hbad]
        exact ⟨by rw [pb_sA_eq, upd_eq], s3⟩
    · have hx := h255 (p + 1 + k) (by omega)
      have hk := hok rfl (by omega)
      have hbad : fbad t L z p k = !(decide (48 ≤ t (p + 1 + k) ∧ t (p + 1 + k) ≤ 57) && X.testBit (t (p + 1 + k) - 48)) := by
        unfold fbad
        rw [decide_eq_false e, Bool.false_or, hk]
      rw [if_neg (fun y => e ((nI_leI (by omega) (by omega)).mp y)), if_pos (q_in (by omega) (by omega)), q_cl (by omega), ht.2 _ (by omega), m_in]
      simp only [in09]
      by_cases r : 48 ≤ t (p + 1 + k) ∧ t (p + 1 + k) ≤ 57
      · have e48 : nI (t (p + 1 + k)) - (48 : Int32) = nI (t (p + 1 + k) - 48) := pk_sub r.1
        rw [e48, inR_nI (by omega) (by omega), decide_eq_true (show t (p + 1 + k) - 48 < 10 by omega), if_pos rfl, pb_b_some, if_neg (by decide), m_has (by omega) (by omega), pb_b_some, hbad, decide_eq_true r, Bool.true_and]
        by_cases w : X.testBit (t (p + 1 + k) - 48) = true
        · rw [if_pos w, if_neg (by decide), w, s1, show nI (p + 1 + k) + (1 : Int32) = nI (p + 1 + k + 1) from nI_add _ 1]
          exact ⟨_, rfl, ⟨by rw [pb_sA_eq, upd_eq], by rw [pb_sA_eq, upd_ne (by decide)]; exact s2, by omega⟩, FR.s19 (by omega)⟩
        · have w' : X.testBit (t (p + 1 + k) - 48) = false := by simpa using w
          rw [if_neg w, if_pos (show nI 0 = (0 : Int32) from rfl), w', m_fJ58, if_pos s2, s1]
          exact ⟨_, rfl, ⟨by rw [pb_sA_eq, upd_eq], s3⟩, FR.s19 (by omega)⟩
      · have hin : ¬ inR (nI (t (p + 1 + k)) - (48 : Int32)) 10 = true := fun q => by
          obtain ⟨v, hv, ev⟩ := inR_of q (by omega)
          have := congrArg Int32.toInt ev
          rw [show (nI (t (p + 1 + k)) - (48 : Int32)).toInt = (t (p + 1 + k) : Int) - 48 from pk_sub_toInt (b := 48) (by omega) (by omega), nI_toInt (by omega)] at this
          omega
        rw [if_neg hin, pb_b_some, if_pos (show nI 0 = (0 : Int32) from rfl), hbad, decide_eq_false r, Bool.false_and, m_fJ58, if_pos s2, s1]
        exact ⟨_, rfl, ⟨by rw [pb_sA_eq, upd_eq], s3⟩, FR.s19 (by omega)⟩
/-- debts that are left to be told -/
theorem m_dl (hr : pb_MR (μ.1 22) 0 z) (h6 : μ.1 19 6 = nI (vP z)) (hz : vOk M z) {i : Nat} (hi : i < 4) : pX7_debtsLeft (nI i) μ = some (nI (pb_bits (pl z i) (vP z)), μ) := by
  have hP := hz.1.1
  unfold pX7_debtsLeft
  exact lp_bits (fun n b s => pX7_debtsLeft_L4 (nI i) n (nI s) (nI b) μ) (pl z i) (vP z) (fun s => some (nI s, μ)) (fun n s => by
    rw [pX7_debtsLeft_L4, h6, if_pos ((nI_leI (by omega) (by omega)).mpr (Nat.le_refl _))]) (fun n b s hb => by
    have n1 : nI b + (1 : Int32) = nI (b + 1) := nI_add b 1
    have hd := dle hz hi (show b < 4 by omega)
    have ix : ((28 : Int32) + ((4 : Int32) * nI i)) + nI b = nI (28 + 4 * i + b) := by rw [show (4 : Int32) * nI i = nI (4 * i) from pk_mul 4 i, show (28 : Int32) + nI (4 * i) = nI (28 + 4 * i) from nI_add 28 _, nI_add]
    have hv : μ.1 22 (28 + 4 * i + b) = nI (vDebt z i b) := by
      have := hr.debt hi (show b < 4 by omega)
      rwa [Nat.zero_add] at this
    rw [pX7_debtsLeft_L4, h6, if_neg (fun y => (show ¬ vP z ≤ b by omega) ((nI_leI (by omega) (by omega)).mp y)), n1, q_shl (by omega), q_or, show (0 : Int32) = nI 0 from rfl, q_or, ix]
    unfold pl
    by_cases e : b = i
    · rw [if_pos (by rw [e]), if_neg (by simp [e])]
    · have e' : ¬ i = b := fun q => e q.symm
      rw [if_neg (fun y => e ((nI_eq (by omega) (by omega)).mp y)), if_pos (q_in (by omega) (by omega)), q_cl (by omega), hv]
      by_cases e2 : vDebt z i b = 0
      · rw [if_pos (by rw [e2]), if_pos (by simp [e', e2])]
      · rw [if_neg (fun y => e2 ((nI_eq (by omega) (by omega)).mp y)), if_neg (by simp [e2])]) pb_F (pb_Fgt (by omega))
theorem bits_0 {q : Nat → Bool} {n : Nat} (hn : n ≤ 5) : (nI (pb_bits q n) = (0 : Int32)) = ((pb_fst q n 0).isSome = false) := by
  have h32 := pb_bits_32 q hn
  refine propext ⟨fun h => ?_, fun h => ?_⟩
  · have h0 := (nI_eq (b := 0) (by omega) (by omega)).mp h
    cases e : pb_fst q n 0 with
    | none => rfl
    | some x =>
      obtain ⟨-, k2, k3, -⟩ := pb_fst_some e
      have := pb_bits_test q x n
      rw [h0, k3, decide_eq_true (show x < n by omega)] at this
      simp at this
  · have : pb_bits q n = 0 := by
      apply Nat.eq_of_testBit_eq
      intro i
      rw [pb_bits_test, Nat.zero_testBit]
      cases e : pb_fst q n 0 with
      | some x => rw [e] at h; cases h
      | none =>
        by_cases hi : i < n
        · rw [pb_fst_none e i (by omega) (by omega), Bool.and_false]
        · simp [hi]
    rw [this]
    rfl
theorem m_dbl (hr : pb_MR (μ.1 22) 0 z) (h6 : μ.1 19 6 = nI (vP z)) (hz : vOk M z) : pX7_debtorsLeft μ = some (nI (pb_bits (plO z) (vP z)), μ) := by
  have hP := hz.1.1
  unfold pX7_debtorsLeft
  exact lp_bits (fun n b s => pX7_debtorsLeft_L4 n (nI s) (nI b) μ) (plO z) (vP z) (fun s => some (nI s, μ)) (fun n s => by
    rw [pX7_debtorsLeft_L4, h6, if_pos ((nI_leI (by omega) (by omega)).mpr (Nat.le_refl _))]) (fun n b s hb => by
    rw [pX7_debtorsLeft_L4, h6, if_neg (fun y => (show ¬ vP z ≤ b by omega) ((nI_leI (by omega) (by omega)).mp y)), m_dl hr h6 hz (by omega), pb_b_some, q_shl (by omega), q_or, show nI b + (1 : Int32) = nI (b + 1) from nI_add b 1]
    simp only [bits_0 (show vP z ≤ 5 by omega)]
    rw [show (0 : Int32) = nI 0 from rfl, q_or]
    unfold plO
    cases (pb_fst (pl z b) (vP z) 0).isSome <;> rfl) pb_F (pb_Fgt (by omega))
end READ4
