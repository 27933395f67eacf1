section EACH2
variable {K : Nat} {S : pb_S} {μ : pb_M} {a : pb_Vg} {M : Nat}
def gvE : Option Nat → Int32
  | none => -9
  | some m => nI (pb_pc m)
theorem vTak_bit {p b : Nat} : (vTak a p).testBit b = (decide (b < vB a) && (vClause a p b == 0)) := by
  unfold vTak
  rw [pb_bits_test]
theorem tS2_lt {s : Nat} : ∀ p b, tS2 a s p b = true → b < vB a := fun p b h => by
  unfold tS2 tA at h
  rw [vTak_bit] at h
  simp at h
  exact h.2.2.1
theorem pow1296 {B P : Nat} (hB : B ≤ 5) (hP : P ≤ 4) : (B + 1) ^ P ≤ 1296 := Nat.le_trans (Nat.pow_le_pow_left (show B + 1 ≤ 6 by omega) P) (Nat.pow_le_pow_right (n := 6) (i := P) (j := 4) (by decide) hP)
theorem m_dig (hm : pb_MM μ 0 a) (hP : vP a ≤ 4) (hB : vB a ≤ 5) {c i x : Nat} (hi : i + (c + 1) = vP a) (hx : x < 2000000) : pX7_power ((μ.1 19 1) + (1 : Int32)) (((μ.1 19 0) - (1 : Int32)) - nI i) μ = some (nI ((vB a + 1) ^ c), μ) ∧ ¬ nI ((vB a + 1) ^ c) = 0 ∧ ¬ ((μ.1 19 1) + (1 : Int32)) = 0 ∧ pb_rem (nI x / nI ((vB a + 1) ^ c)) ((μ.1 19 1) + (1 : Int32)) = nI (x / (vB a + 1) ^ c % (vB a + 1)) := by
  have hw := pow1296 hB (show c ≤ 4 by omega)
  have hw0 : 0 < (vB a + 1) ^ c := Nat.pow_pos (by omega)
  have e1 : μ.1 19 1 + (1 : Int32) = nI (vB a + 1) := by rw [hm.2.2.2]; exact nI_add _ 1
  have e2 : (μ.1 19 0 - (1 : Int32)) - nI i = nI c := by
    rw [hm.2.2.1, show nI (vP a) - (1 : Int32) = nI (vP a - 1) from pk_sub (show 1 ≤ vP a by omega), pk_sub (show i ≤ vP a - 1 by omega)]
    exact congrArg nI (by omega)
  rw [e1, e2]
  refine ⟨m_power (by omega), fun q => (show ¬ (vB a + 1) ^ c = 0 by omega) ((nI_eq (b := 0) (by omega) (by omega)).mp q), fun q => (show ¬ vB a + 1 = 0 by omega) ((nI_eq (b := 0) (by omega) (by omega)).mp q), ?_⟩
  rw [q_div (by omega) hw0 (by omega), q_rem (Nat.lt_of_le_of_lt (Nat.div_le_self _ _) (by omega)) (by omega) (by omega)]
theorem m_gL (hm : pb_MM μ 0 a) (hs : vS a) (hP : vP a ≤ 4) (hB : vB a ≤ 5) (hob : ∀ b, b < vB a → a (27 + b) < 4) {s x : Nat} (hss : s < 32) (hx : x < 2000000) (Kc : Int32 → pb_M → Option (Int32 × pb_M)) : ∀ (c i f met : Nat), i + c = vP a → c < f → met < 32 → pX7_getBy_L5 (nI x) (nI s) Kc f (nI met) (nI i) μ = match gV (tS2 a s) (vB a + 1) c i met x with
    | none => some ((-9 : Int32), μ)
    | some m => Kc (nI m) μ
  | _, _, 0, _, _, hf, _ => by omega
  | 0, i, f + 1, met, hi, _, _ => by
    rw [pX7_getBy_L5, hm.2.2.1, if_pos ((nI_leI (by omega) (by omega)).mpr (by omega))]
    rfl
  | c + 1, i, f + 1, met, hi, hf, hmet => by
    have n1 : nI i + (1 : Int32) = nI (i + 1) := nI_add i 1
    have ih := fun met' h => m_gL hm hs hP hB hob hss hx Kc c (i + 1) f met' (by omega) (by omega) h
    obtain ⟨p1, p2, p3, p4⟩ := m_dig hm hP hB hi hx
    have hd := Nat.mod_lt (x / (vB a + 1) ^ c) (show 0 < vB a + 1 by omega)
    have h0 : μ.1 19 0 = nI (vP a) := hm.2.2.1
    rw [pX7_getBy_L5, if_neg (show ¬ μ.1 19 0 ≤ nI i from fun z => by rw [h0] at z; exact (show ¬ vP a ≤ i by omega) ((nI_leI (by omega) (by omega)).mp z)), p1, pb_b_some, if_neg p2, if_neg p3, p4, n1]
    unfold gV
    generalize x / (vB a + 1) ^ c % (vB a + 1) = d at hd
    cases d with
    | zero =>
      rw [if_pos (by decide : nI 0 - (1 : Int32) < 0), if_pos rfl]
      exact ih met hmet
    | succ b =>
      have hcl : pX7_clauseOn (0 : Int32) (nI i) (nI b) μ = some (nI (vClause a i b), μ) := m_clause hm hs (show 0 < 2 by omega) (show i < 4 by omega) (show b < vB a by omega) hB (hob b (by omega))
      have hl := vClause_lt a i b
      rw [show nI (b + 1) - (1 : Int32) = nI b from pk_sub (show 1 ≤ b + 1 by omega), if_neg (show ¬ nI b < (0 : Int32) from fun z => (show ¬ b < 0 by omega) ((nI_ltI (b := 0) (by omega) (by omega)).mp z)), m_has (by omega) (by omega), pb_b_some, if_neg (show ¬ b + 1 = 0 by omega), Nat.add_sub_cancel]
      have ht : (tS2 a s i b && fF met b) = (s.testBit i && ((vClause a i b == 0) && !met.testBit b)) := by
        unfold tS2 tA fF
        rw [vTak_bit, decide_eq_true (show i < vP a by omega), decide_eq_true (show b < vB a by omega), Bool.true_and, Bool.true_and, Bool.and_assoc]
      rw [ht]
      by_cases h1 : s.testBit i = true
      · rw [if_pos h1, if_neg (by decide), m_has (by omega) (by omega), pb_b_some, h1, Bool.true_and]
        by_cases h2 : met.testBit b = true
        · rw [if_pos h2, if_neg (by decide), h2, Bool.not_true, Bool.and_false, if_neg (show ¬ false = true from by decide)]
        · have h2' : met.testBit b = false := by simpa using h2
          rw [if_neg h2, if_pos (show nI 0 = (0 : Int32) from rfl), hcl, pb_b_some, h2', Bool.not_false, Bool.and_true]
          by_cases h3 : vClause a i b = 0
          · rw [h3, if_pos (show nI 0 = (0 : Int32) from rfl), q_shl (by omega), q_or, if_pos (by decide)]
            exact ih _ (Nat.or_lt_two_pow (n := 5) hmet (Nat.pow_lt_pow_right (a := 2) (by decide) (by omega)))
          · rw [if_neg (show ¬ nI (vClause a i b) = (0 : Int32) from fun q => h3 ((nI_eq (b := 0) (by omega) (by omega)).mp q)), if_neg (by simpa using h3)]
      · have h1' : s.testBit i = false := by simpa using h1
        rw [if_neg h1, if_pos (show nI 0 = (0 : Int32) from rfl), h1', Bool.false_and, if_neg (show ¬ false = true from by decide)]
theorem m_getBy (hm : pb_MM μ 0 a) (hs : vS a) (hP : vP a ≤ 4) (hB : vB a ≤ 5) (hob : ∀ b, b < vB a → a (27 + b) < 4) {s x : Nat} (hss : s < 32) (hx : x < 2000000) : pX7_getBy (nI x) (nI s) μ = some (gvE (gV (tS2 a s) (vB a + 1) (vP a) 0 0 x), μ) := by
  unfold pX7_getBy
  refine (m_gL hm hs hP hB hob hss hx _ (vP a) 0 pb_F 0 (by omega) (pb_Fgt (by omega)) (by omega)).trans ?_
  cases e : gV (tS2 a s) (vB a + 1) (vP a) 0 0 x with
  | none => rfl
  | some m =>
    have h32 := gV_32 (by omega) (by omega) (show 0 < 32 by omega) e
    show pb_b (pX7_ones (nI m) μ) _ = _
    rw [m_ones (by omega), pb_b_some]
    rfl
def pb_15 (μ : pb_M) (v : Int32) : pb_M := pb_sA μ 19 (upd (μ.1 19) 15 v)
theorem pb_15_15 {v w : Int32} : pb_15 (pb_15 μ v) w = pb_15 μ w := by
  unfold pb_15
  rw [pb_sA_sA, pb_sA_eq, upd_upd]
theorem pb_15_at {v : Int32} : (pb_15 μ v).1 19 15 = v := by
  unfold pb_15
  rw [pb_sA_eq, upd_eq]
theorem pb_15_m (hm : pb_MM μ 0 a) {v : Int32} : pb_MM (pb_15 μ v) 0 a := by
  unfold pb_15 pb_MM
  rw [pb_sA_ne (by decide), pb_sA_ne (by decide), pb_sA_eq, upd_ne (by decide), upd_ne (by decide)]
  exact hm
theorem pb_15_self : pb_15 μ (μ.1 19 15) = μ := by
  unfold pb_15
  have : upd (μ.1 19) 15 (μ.1 19 15) = μ.1 19 := by
    funext j
    by_cases e : j = 15
    · rw [e, upd_eq]
    · rw [upd_ne e]
  rw [this, pb_sA_self]
theorem m_mJ {v1 v2 v3 v4 s0 : Int32} {S5 : Int32 → Int32 → pb_M → Option (Int32 × pb_M)} {w : Int32} : pX7_mostBy_J45 v1 S5 v2 v3 v4 s0 (pb_15 μ w) = S5 (if v4 ≤ v2 then v2 else v4) (v3 + (1 : Int32)) (pb_15 μ s0) := by
  unfold pX7_mostBy_J45
  rw [show pb_sA (pb_15 μ w) 19 (upd ((pb_15 μ w).1 19) 15 s0) = pb_15 μ s0 from pb_15_15]
  split <;> rfl
theorem lt9 {k : Nat} (hk : k < 2000000) : (-9 : Int32) < nI k := by
  rw [Int32.lt_iff_toInt_lt, nI_toInt (by omega), show (-9 : Int32).toInt = -9 from by decide]
  omega
theorem m_mostL (hm : pb_MM μ 0 a) (hs : vS a) (hP : vP a ≤ 4) (hB : vB a ≤ 5) (hob : ∀ b, b < vB a → a (27 + b) < 4) {s x k m : Nat} (hss : s < 32) (hxN : x < (vB a + 1) ^ vP a) (hx : gV (tS2 a s) (vB a + 1) (vP a) 0 0 x = some m) (hk : pb_pc m = k) (hle : ∀ n m', gV (tS2 a s) (vB a + 1) (vP a) 0 0 n = some m' → pb_pc m' ≤ k) (hlt : ∀ n m', n < x → gV (tS2 a s) (vB a + 1) (vP a) 0 0 n = some m' → pb_pc m' < k) : ∀ (c b f : Nat) (v w : Int32), b + c = (vB a + 1) ^ vP a → c < f → (b ≤ x → v < nI k) → (x < b → v = nI k ∧ w = nI x) → pX7_mostBy_L5 (nI s) f v (nI b) (pb_15 μ w) = some (nI k, pb_15 μ (nI x))
  | _, _, 0, _, _, _, hf, _, _ => by omega
  | 0, b, f + 1, v, w, hb, _, h1, h2 => by
    have hw := pow1296 hB hP
    obtain ⟨r1, r2⟩ := h2 (by omega)
    have hm1 := pb_15_m hm (v := w)
    have e1 : (pb_15 μ w).1 19 1 + (1 : Int32) = nI (vB a + 1) := by rw [hm1.2.2.2]; exact nI_add _ 1
    rw [pX7_mostBy_L5, e1, hm1.2.2.1, m_power (by omega), pb_b_some, if_pos ((nI_leI (by omega) (by omega)).mpr (by omega)), r1, r2]
  | c + 1, b, f + 1, v, w, hb, hf, h1, h2 => by
    have hw := pow1296 hB hP
    have hk5 := pb_pc_lt m
    have hm1 := pb_15_m hm (v := w)
    have n1 : nI b + (1 : Int32) = nI (b + 1) := nI_add b 1
    have e1 : (pb_15 μ w).1 19 1 + (1 : Int32) = nI (vB a + 1) := by rw [hm1.2.2.2]; exact nI_add _ 1
    have ih := fun v' w' => m_mostL hm hs hP hB hob hss hxN hx hk hle hlt c (b + 1) f v' w' (by omega) (by omega)
    rw [pX7_mostBy_L5, e1, hm1.2.2.1, m_power (by omega), pb_b_some, if_neg (fun z => (show ¬ (vB a + 1) ^ vP a ≤ b by omega) ((nI_leI (by omega) (by omega)).mp z)), m_getBy hm1 hs hP hB hob hss (by omega), pb_b_some, pb_15_at, m_mJ, m_mJ, n1]
    rcases Nat.lt_trichotomy b x with q | q | q
    · have hmany : gvE (gV (tS2 a s) (vB a + 1) (vP a) 0 0 b) < nI k := by
        cases e : gV (tS2 a s) (vB a + 1) (vP a) 0 0 b with
        | none => exact lt9 (by omega)
        | some m' =>
          have := hlt b m' q e
          exact (nI_ltI (by omega) (by omega)).mpr this
      by_cases e : gvE (gV (tS2 a s) (vB a + 1) (vP a) 0 0 b) ≤ v
      · rw [if_pos e, if_pos e]
        exact ih v w (fun _ => h1 (by omega)) (fun z => by omega)
      · rw [if_neg e, if_neg e]
        exact ih _ _ (fun _ => hmany) (fun z => by omega)
    · subst q
      have hv := h1 (Nat.le_refl _)
      have e0 : gvE (gV (tS2 a s) (vB a + 1) (vP a) 0 0 b) = nI k := by
        rw [hx]
        show nI (pb_pc m) = _
        rw [hk]
      rw [e0, if_neg (Int32.not_le.mpr hv), if_neg (Int32.not_le.mpr hv)]
      exact ih _ _ (fun z => by omega) (fun _ => ⟨rfl, rfl⟩)
    · obtain ⟨r1, r2⟩ := h2 q
      have hmany : gvE (gV (tS2 a s) (vB a + 1) (vP a) 0 0 b) ≤ nI k := by
        cases e : gV (tS2 a s) (vB a + 1) (vP a) 0 0 b with
        | none => exact Int32.le_of_lt (lt9 (by omega))
        | some m' =>
          have := hle b m' e
          exact (nI_leI (by omega) (by omega)).mpr this
      rw [r1, if_pos hmany, if_pos hmany, r2]
      exact ih _ _ (fun z => by omega) (fun _ => ⟨rfl, rfl⟩)
theorem m_mostBy (hm : pb_MM μ 0 a) (hs : vS a) (hP : vP a ≤ 4) (hB : vB a ≤ 5) (hob : ∀ b, b < vB a → a (27 + b) < 4) {s : Nat} (hss : s < 32) : pX7_mostBy (nI s) μ = some (nI (mA a s), pb_15 μ (nI (gN (tS2 a s) (vB a + 1) (vP a) 0 (fF 0)))) := by
  have hw := pow1296 hB hP
  have hN := gN_lt (tS2_lt (a := a) (s := s)) (vP a) 0 (fF 0)
  have e0 : pb_pc 0 = 0 := by decide
  obtain ⟨m, g1, g2⟩ := gV_hit hB (tS2_lt (a := a) (s := s)) (n := gN (tS2 a s) (vB a + 1) (vP a) 0 (fF 0)) (vP a) 0 0 (Nat.mod_eq_of_lt hN)
  rw [e0, Nat.zero_add] at g2
  have h5 := pb_pc_lt m
  have := m_mostL hm hs hP hB hob hss hN g1 g2 (fun n m' h => by
    have := gV_le (by omega) (by omega) h
    omega) (fun n m' h1 h2 => by
    have := gV_less hB (tS2_lt (a := a) (s := s)) (vP a) 0 0 (by rw [Nat.mod_eq_of_lt (by omega)]; exact h1) h2
    omega) ((vB a + 1) ^ vP a) 0 pb_F (-9) (μ.1 19 15) (by omega) (pb_Fgt (by omega)) (fun _ => lt9 (by omega)) (fun z => by omega)
  rw [pb_15_self] at this
  exact this
theorem m_wayL (hm : pb_MM μ 0 a) (hP : vP a ≤ 4) (hB : vB a ≤ 5) {x : Nat} (hx : x < 2000000) : ∀ (c i f v : Nat), i + c = vP a → c < f → pX7_wayOf_L4 (nI x) f (nI v) (nI i) μ = some (nI (wy (vB a + 1) c v x), μ)
  | _, _, 0, _, _, hf => by omega
  | 0, i, f + 1, v, hi, _ => by
    rw [pX7_wayOf_L4, hm.2.2.1, if_pos ((nI_leI (by omega) (by omega)).mpr (by omega))]
    rfl
  | c + 1, i, f + 1, v, hi, hf => by
    obtain ⟨p1, p2, p3, p4⟩ := m_dig hm hP hB hi hx
    have h0 : μ.1 19 0 = nI (vP a) := hm.2.2.1
    rw [pX7_wayOf_L4, if_neg (show ¬ μ.1 19 0 ≤ nI i from fun z => by rw [h0] at z; exact (show ¬ vP a ≤ i by omega) ((nI_leI (by omega) (by omega)).mp z)), p1, pb_b_some, if_neg p2, if_neg p3, p4, show nI i + (1 : Int32) = nI (i + 1) from nI_add i 1, show (10 : Int32) * nI v = nI (10 * v) from pk_mul 10 v, nI_add]
    exact m_wayL hm hP hB hx c (i + 1) f _ (by omega) (by omega)
theorem op_each (hA : InvA K S) (hK : K + 1 ≤ 64) (v : Int32) : pOp K S (pX6_each v) (pX7_each v) := by
  have hP := hA.1.1.1.1
  have hB := hA.1.1.1.2
  have hs := hA.s
  have hob : ∀ b, b < vB S.1 → S.1 (27 + b) < 4 := fun b hb => by have := (hA.1.1.2.1 b hb).1; omega
  have h16 := pow32 (n := vP S.1) (by omega)
  refine pOp.read hA hK (if v = (0 : Int32) then nI (mR (tE S.1) (vP S.1) 0 (fF 0)) else nI (cw (tE S.1) (vP S.1) 0 0 (fF 0))) (pC.read fun μ hC => ?_) (pM.read fun μ hM => ?_)
  · obtain ⟨μ1, g1, g2, g3, g4, g5⟩ := c_look hC.1 hs hP hB hob
    refine ⟨μ1, ?_, g4, g5⟩
    unfold pX6_each
    rw [g1, pb_b_some]
    by_cases e : v = (0 : Int32)
    · rw [if_pos e, if_pos e, c_most g2 hP hB, pb_b_some]
    · rw [if_neg e, if_neg e, c_first g2 hP hB, pb_b_some]
  · have hw := pow1296 hB hP
    have hN := gN_lt (tS2_lt (a := S.1) (s := 2 ^ vP S.1 - 1)) (vP S.1) 0 (fF 0)
    refine ⟨pb_15 μ (nI (gN (tE S.1) (vB S.1 + 1) (vP S.1) 0 (fF 0))), ?_, agM.s19 (by omega), frM.sA (by omega)⟩
    unfold pX7_each
    rw [hM.1.2.2.1, q_shl (by omega), show nI (2 ^ vP S.1) - (1 : Int32) = nI (2 ^ vP S.1 - 1) from pk_sub (Nat.two_pow_pos _), m_mostBy hM.1 hs hP hB hob (by omega), pb_b_some]
    by_cases e : v = (0 : Int32)
    · rw [if_pos e, if_pos e]
      rfl
    · have hway : pX7_wayOf (nI (gN (tS2 S.1 (2 ^ vP S.1 - 1)) (vB S.1 + 1) (vP S.1) 0 (fF 0))) (pb_15 μ (nI (gN (tS2 S.1 (2 ^ vP S.1 - 1)) (vB S.1 + 1) (vP S.1) 0 (fF 0)))) = _ := m_wayL (pb_15_m hM.1) hP hB (x := gN (tS2 S.1 (2 ^ vP S.1 - 1)) (vB S.1 + 1) (vP S.1) 0 (fF 0)) (by omega) (vP S.1) 0 pb_F 0 (by omega) (pb_Fgt (by omega))
      rw [if_neg e, if_neg e, pb_15_at, hway, pb_b_some, wy_cw (tS2_lt (a := S.1) (s := 2 ^ vP S.1 - 1)) (vP S.1) 0 0 (fF 0) (Nat.mod_eq_of_lt hN)]
      rfl
end EACH2
