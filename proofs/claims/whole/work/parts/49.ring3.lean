section RING3
variable {K : Nat} {S : pb_S} {μ : pb_M} {a : pb_Vg} {M p : Nat}
theorem pb_sA4 {k l : Nat} (h : k ≠ l) {g f x y : Nat → Int32} : pb_sA (pb_sA (pb_sA (pb_sA μ k g) l f) k x) l y = pb_sA (pb_sA μ k x) l y := by
  have e : pb_sA (pb_sA (pb_sA μ k g) l f) k x = pb_sA (pb_sA (pb_sA μ k g) k x) l f := by
    unfold pb_sA
    congr 1
    funext h'
    by_cases q : h' = k
    · by_cases q2 : h' = l
      · exact absurd (q.symm.trans q2) h
      · simp [q, h]
    · simp [q]
  rw [e, pb_sA_sA, pb_sA_sA]
theorem c_owesL (hc : pb_CR (μ.1 (4 + 1)) 0 a) (hz : vOk M a) {i X : Nat} (hi : i < 4) (hX : X < 32) : ∀ (c b n : Nat), b + c = vP a → c < n → pX3_owesOneOf_L2 4 (nI i) (nI X) n (nI b) μ = some (nI (if (pb_fst (fun j => X.testBit j && rE a i j) c b).isSome = true then 1 else 0), μ)
  | _, _, 0, _, hn => by omega
  | 0, b, n + 1, hb, _ => by
    have hP := hz.1.1
    rw [pX3_owesOneOf_L2, c_people hc, pb_b_some, if_pos ((nI_leI (by omega) (by omega)).mpr (by omega))]
    rfl
  | c + 1, b, n + 1, hb, hn => by
    have hP := hz.1.1
    have ih := c_owesL hc hz hi hX c (b + 1) n (by omega) (by omega)
    have n1 : nI b + (1 : Int32) = nI (b + 1) := nI_add b 1
    have hd := dle hz hi (show b < 4 by omega)
    rw [pX3_owesOneOf_L2, c_people hc, pb_b_some, if_neg (fun z => (show ¬ vP a ≤ b by omega) ((nI_leI (by omega) (by omega)).mp z)), c_has (by omega) (by omega), pb_b_some, n1]
    unfold pb_fst
    by_cases e : X.testBit b = true
    · rw [if_pos e, if_neg (by decide), c_debt hc hi (by omega), pb_b_some]
      by_cases e2 : vDebt a i b = 0
      · rw [if_pos (show nI (vDebt a i b) ≤ (0 : Int32) from (nI_leI (b := 0) (by omega) (by omega)).mpr (by omega)), ih, if_neg (show ¬ (X.testBit b && rE a i b) = true from by unfold rE; simp [e2])]
      · rw [if_neg (show ¬ nI (vDebt a i b) ≤ (0 : Int32) from fun z => (show ¬ vDebt a i b ≤ 0 by omega) ((nI_leI (b := 0) (by omega) (by omega)).mp z)), if_pos (show (X.testBit b && rE a i b) = true by unfold rE; simp [e, e2])]
        rfl
    · rw [if_neg e, if_pos (show nI 0 = (0 : Int32) from rfl), ih, if_neg (show ¬ (X.testBit b && rE a i b) = true from by simp [e])]
theorem c_firstL (hc : pb_CR (μ.1 (4 + 1)) 0 a) (hz : vOk M a) {i X : Nat} (hi : i < 4) (hX : X < 32) : ∀ (c b n : Nat), b + c = vP a → c < n → pX3_firstCreditor_L2 4 (nI i) (nI X) n (nI b) μ = some (nI ((pb_fst (fun j => X.testBit j && rE a i j) c b).getD i), μ)
  | _, _, 0, _, hn => by omega
  | 0, b, n + 1, hb, _ => by
    have hP := hz.1.1
    rw [pX3_firstCreditor_L2, c_people hc, pb_b_some, if_pos ((nI_leI (by omega) (by omega)).mpr (by omega))]
    rfl
  | c + 1, b, n + 1, hb, hn => by
    have hP := hz.1.1
    have ih := c_firstL hc hz hi hX c (b + 1) n (by omega) (by omega)
    have n1 : nI b + (1 : Int32) = nI (b + 1) := nI_add b 1
    have hd := dle hz hi (show b < 4 by omega)
    rw [pX3_firstCreditor_L2, c_people hc, pb_b_some, if_neg (fun z => (show ¬ vP a ≤ b by omega) ((nI_leI (by omega) (by omega)).mp z)), c_has (by omega) (by omega), pb_b_some, n1]
    unfold pb_fst
    by_cases e : X.testBit b = true
    · rw [if_pos e, if_neg (by decide), c_debt hc hi (by omega), pb_b_some]
      by_cases e2 : vDebt a i b = 0
      · rw [if_pos (show nI (vDebt a i b) ≤ (0 : Int32) from (nI_leI (b := 0) (by omega) (by omega)).mpr (by omega)), ih, if_neg (show ¬ (X.testBit b && rE a i b) = true from by unfold rE; simp [e2])]
      · rw [if_neg (show ¬ nI (vDebt a i b) ≤ (0 : Int32) from fun z => (show ¬ vDebt a i b ≤ 0 by omega) ((nI_leI (b := 0) (by omega) (by omega)).mp z)), if_pos (show (X.testBit b && rE a i b) = true by unfold rE; simp [e, e2])]
        rfl
    · rw [if_neg e, if_pos (show nI 0 = (0 : Int32) from rfl), ih, if_neg (show ¬ (X.testBit b && rE a i b) = true from by simp [e])]
theorem c_debtors (hc : pb_CR (μ.1 (4 + 1)) 0 a) (hz : vOk M a) {X : Nat} (hX : X < 32) : pX3_debtorsOf 4 (nI X) μ = some (nI (pb_bits (rgO a X) (vP a)), μ) := by
  have hP := hz.1.1
  unfold pX3_debtorsOf
  exact lp_bits (fun n b s => pX3_debtorsOf_L4 4 (nI X) n (nI s) (nI b) μ) (rgO a X) (vP a) (fun s => some (nI s, μ)) (fun n s => by
    rw [pX3_debtorsOf_L4, c_people hc, pb_b_some, if_pos ((nI_leI (by omega) (by omega)).mpr (Nat.le_refl _))]) (fun n b s hb => by
    have ho : pX3_owesOneOf 4 (nI b) (nI X) μ = some (nI (if rgO a X b = true then 1 else 0), μ) := c_owesL hc hz (by omega) hX (vP a) 0 pb_F (by omega) (pb_Fgt (by omega))
    rw [pX3_debtorsOf_L4, c_people hc, pb_b_some, if_neg (fun z => (show ¬ vP a ≤ b by omega) ((nI_leI (by omega) (by omega)).mp z)), ho, pb_b_some, q_shl (by omega), q_or, show (0 : Int32) = nI 0 from rfl, q_or, show nI b + (1 : Int32) = nI (b + 1) from nI_add b 1]
    by_cases e : rgO a X b = true
    · rw [if_pos e, if_neg (by decide), if_pos e]
    · rw [if_neg e, if_pos rfl, if_neg e]) pb_F (pb_Fgt (by omega))
theorem c_findL (hc : pb_CR (μ.1 5) 0 a) (hz : vOk M a) (hp : p < vP a) (Kc : Int32 → pb_M → Option (Int32 × pb_M)) : ∀ (c k n : Nat) (f : Nat → Int32), k + c = vP a + 1 → 1 ≤ k → c < n → (∀ j, j < k → f j = nI (rgL a p j)) → ∃ f', (∀ k', pb_fst (fun k => (rgL a p k).testBit p) c k = some k' → (∀ j, j ≤ k' → f' j = nI (rgL a p j)) ∧ pX3_find_L16 4 (nI p) Kc n (nI k) (pb_sA μ 13 f) = Kc (nI k') (pb_sA μ 13 f')) ∧ (pb_fst (fun k => (rgL a p k).testBit p) c k = none → pX3_find_L16 4 (nI p) Kc n (nI k) (pb_sA μ 13 f) = some ((0 : Int32), pb_sA μ 13 f'))
  | _, _, 0, _, _, _, hn, _ => by omega
  | 0, k, n + 1, f, hb, h1, _, hf => by
    have hP := hz.1.1
    have hc' : pb_CR ((pb_sA μ 13 f).1 (4 + 1)) 0 a := by rw [pb_sA_ne (by decide)]; exact hc
    refine ⟨f, (fun k' h => by cases h), fun _ => ?_⟩
    rw [pX3_find_L16, c_people hc', pb_b_some, if_pos ((nI_ltI (by omega) (by omega)).mpr (by omega))]
  | c + 1, k, n + 1, f, hb, h1, hn, hf => by
    have hP := hz.1.1
    have hc' : pb_CR ((pb_sA μ 13 f).1 (4 + 1)) 0 a := by rw [pb_sA_ne (by decide)]; exact hc
    have h32 := rgL_32 (a := a) (p := p) hP (by omega) (k - 1)
    have h32k := rgL_32 (a := a) (p := p) hP (by omega) k
    have ek : pb_bits (rgO a (rgL a p (k - 1))) (vP a) = rgL a p k := by
      obtain ⟨k', rfl⟩ : ∃ k', k = k' + 1 := ⟨k - 1, by omega⟩
      rfl
    have hf1 : ∀ j, j < k + 1 → upd f k (nI (rgL a p k)) j = nI (rgL a p j) := fun j hj => by
      by_cases e : j = k
      · subst e
        rw [upd_eq]
      · rw [upd_ne e]
        exact hf j (by omega)
    have hstep : ∀ Kc', pX3_find_L16 4 (nI p) Kc' (n + 1) (nI k) (pb_sA μ 13 f) = if (rgL a p k).testBit p = true then Kc' (nI k) (pb_sA μ 13 (upd f k (nI (rgL a p k)))) else pX3_find_L16 4 (nI p) Kc' n (nI (k + 1)) (pb_sA μ 13 (upd f k (nI (rgL a p k)))) := fun Kc' => by
      rw [pX3_find_L16, c_people hc', pb_b_some, if_neg (fun z => (show ¬ vP a < k by omega) ((nI_ltI (by omega) (by omega)).mp z)), show nI k - (1 : Int32) = nI (k - 1) from pk_sub h1, if_pos (q_in (by omega) (by omega)), q_cl (by omega), pb_sA_eq, hf (k - 1) (by omega), c_debtors hc' hz h32, pb_b_some, ek, if_pos (q_in (by omega) (by omega)), if_pos (q_in (by omega) (by omega)), q_cl (by omega), pb_sA_sA, pb_sA_eq, pb_sA_eq, upd_eq, c_has (by omega) (by omega), pb_b_some, show nI k + (1 : Int32) = nI (k + 1) from nI_add k 1]
      by_cases e : (rgL a p k).testBit p = true
      · rw [if_pos e, if_neg (by decide), if_pos e]
      · rw [if_neg e, if_pos (show nI 0 = (0 : Int32) from rfl), if_neg e]
    rw [hstep]
    unfold pb_fst
    by_cases e : (rgL a p k).testBit p = true
    · rw [if_pos e, if_pos e]
      exact ⟨upd f k (nI (rgL a p k)), fun k' h => by
        cases h
        exact ⟨fun j hj => hf1 j (by omega), rfl⟩, fun h => by cases h⟩
    · rw [if_neg e, if_neg e]
      exact c_findL hc hz hp Kc c (k + 1) n _ (by omega) (by omega) (by omega) hf1
theorem c_folL (hc : pb_CR (μ.1 5) 0 a) (hz : vOk M a) (hp : p < vP a) {k : Nat} (hk : k ≤ 4) (h13 : ∀ j, j < k → μ.1 13 j = nI (rgL a p j)) : ∀ (c i n : Nat) (g f : Nat → Int32), i + c = k → c < n → f 2 = nI i → (∀ j, j < i → g j = nI (rgM a p k j)) → ∃ g' f', pX3_follow_L6 4 n (nI (rgM a p k i)) (nI c) (pb_sA (pb_sA μ 14 g) 12 f) = some ((), pb_sA (pb_sA μ 14 g') 12 f') ∧ f' 2 = nI k ∧ ∀ j, j < k → g' j = nI (rgM a p k j)
  | _, _, 0, _, _, _, hn, _, _ => by omega
  | 0, i, n + 1, g, f, hb, _, h2, hg => by
    refine ⟨g, f, ?_, ?_, fun j hj => hg j (by omega)⟩
    · rw [pX3_follow_L6, if_pos (by decide : nI 0 < (1 : Int32))]
    · rw [h2, show i = k by omega]
  | c + 1, i, n + 1, g, f, hb, hn, h2, hg => by
    have hP := hz.1.1
    have e12 : (pb_sA (pb_sA μ 14 g) 12 f).1 12 = f := pb_sA_eq
    have e14 : (pb_sA (pb_sA μ 14 g) 12 f).1 14 = g := by rw [pb_sA_ne (by decide), pb_sA_eq]
    have hm := rgM_lt hP hp k i
    have hc' : ∀ x y, pb_CR ((pb_sA (pb_sA μ 14 x) 12 y).1 (4 + 1)) 0 a := fun x y => by rw [pb_sA_ne (by decide), pb_sA_ne (by decide)]; exact hc
    have e13 : ∀ x y, (pb_sA (pb_sA μ 14 x) 12 y).1 13 c = nI (rgL a p c) := fun x y => by rw [pb_sA_ne (by decide), pb_sA_ne (by decide)]; exact h13 c (by omega)
    have hfc : ∀ x y, pX3_firstCreditor 4 (nI (rgM a p k i)) (nI (rgL a p c)) (pb_sA (pb_sA μ 14 x) 12 y) = some (nI (rgM a p k (i + 1)), pb_sA (pb_sA μ 14 x) 12 y) := fun x y => by
      have := c_firstL (hc' x y) hz (show rgM a p k i < 4 by omega) (rgL_32 (a := a) (p := p) hP (by omega) c) (vP a) 0 pb_F (by omega) (pb_Fgt (by omega))
      rw [show rgM a p k (i + 1) = rgC a (rgL a p (k - 1 - i)) (rgM a p k i) from rfl, show k - 1 - i = c by omega]
      exact this
    obtain ⟨g', f', k1, k2, k3⟩ := c_folL hc hz hp hk h13 c (i + 1) n (upd g i (nI (rgM a p k i))) (upd f 2 (nI (i + 1))) (by omega) (by omega) (by rw [upd_eq]) (fun j hj => by
      by_cases e : j = i
      · subst e
        rw [upd_eq]
      · rw [upd_ne e]
        exact hg j (by omega))
    refine ⟨g', f', ?_, k2, k3⟩
    rw [← k1, pX3_follow_L6, if_neg (show ¬ nI (c + 1) < (1 : Int32) from fun z => (show ¬ c + 1 < 1 by omega) ((nI_ltI (b := 1) (by omega) (by omega)).mp z)), e12, h2, if_pos (q_in (by omega) (by omega)), show nI (c + 1) - (1 : Int32) = nI c from pk_sub (show 1 ≤ c + 1 by omega), if_pos (q_in (by omega) (by omega)), q_cl (by omega), q_cl (by omega), e14, pb_sA_ne (show (12 : Nat) ≠ 14 by decide), e12, h2, show nI i + (1 : Int32) = nI (i + 1) from nI_add i 1, pb_sA4 (by decide), e13, hfc, pb_b_some, show nI (c + 1) + (-1 : Int32) = nI c from pk_m1 c]
theorem c_figs {k : Nat} (hk : k ≤ 4) (h12 : μ.1 12 2 = nI k) (h14 : ∀ j, j < k → μ.1 14 j = nI (rgM a p k j)) : pX3_figures μ = some (nI (rgF a p k), μ) := by
  unfold pX3_figures
  exact (lp_it (fun n b (s : Nat) => pX3_figures_L4 n (nI s) (nI b) μ) (fun i v => v * 10 + rgM a p k i + 1) (fun _ _ => True) k (fun s => some (nI s, μ)) (fun n s _ => by
    rw [pX3_figures_L4, h12, if_pos ((nI_leI (by omega) (by omega)).mpr (Nat.le_refl _))]) (fun n b s hb _ => ⟨by
    rw [pX3_figures_L4, h12, if_neg (fun z => (show ¬ k ≤ b by omega) ((nI_leI (by omega) (by omega)).mp z)), if_pos (q_in (by omega) (by omega)), q_cl (by omega), h14 b hb, show nI s * (10 : Int32) = nI (s * 10) from pk_mul s 10, nI_add, show nI (s * 10 + rgM a p k b) + (1 : Int32) = nI (s * 10 + rgM a p k b + 1) from nI_add _ 1, show nI b + (1 : Int32) = nI (b + 1) from nI_add b 1], trivial⟩) k 0 pb_F 0 (by omega) (pb_Fgt (by omega)) trivial).1
theorem c_least (hc : pb_CR (μ.1 (4 + 1)) 0 a) (hz : vOk M a) (hp : p < vP a) {k : Nat} (hk : k ≤ 4) (hk0 : 0 < k) (h12 : μ.1 12 2 = nI k) (h14 : ∀ j, j < k → μ.1 14 j = nI (rgM a p k j)) : pX3_leastDebt 4 μ = some (nI (rgD a p k), μ) := by
  have hP := hz.1.1
  unfold pX3_leastDebt
  exact (lp_it (fun n b (s : Nat) => pX3_leastDebt_L5 4 n (nI s) (nI b) μ) (fun i v => min v (vDebt a (rgM a p k i) (if i + 1 < k then rgM a p k (i + 1) else rgM a p k 0))) (fun _ s => s ≤ 99) k (fun s => some (nI s, μ)) (fun n s _ => by
    rw [pX3_leastDebt_L5, h12, if_pos ((nI_leI (by omega) (by omega)).mpr (Nat.le_refl _))]) (fun n b s hb hs => ⟨by
    have n1 : nI b + (1 : Int32) = nI (b + 1) := nI_add b 1
    have l1 := rgM_lt hP hp k b
    have l2 := rgM_lt hP hp k (b + 1)
    have l0 := rgM_lt hP hp k 0
    have em : ∀ d, d ≤ 99 → (if nI d < nI s then nI d else nI s) = nI (min s d) := fun d hd => by
      by_cases e : d < s
      · rw [if_pos ((nI_ltI (by omega) (by omega)).mpr e), Nat.min_eq_right (by omega)]
      · rw [if_neg (fun z => e ((nI_ltI (by omega) (by omega)).mp z)), Nat.min_eq_left (by omega)]
    rw [pX3_leastDebt_L5, h12, if_neg (fun z => (show ¬ k ≤ b by omega) ((nI_leI (by omega) (by omega)).mp z)), n1]
    by_cases e : b + 1 < k
    · rw [if_neg (fun z => (show ¬ k ≤ b + 1 by omega) ((nI_leI (by omega) (by omega)).mp z)), if_pos (q_in (by omega) (by omega)), if_pos (q_in (by omega) (by omega)), q_cl (by omega), q_cl (by omega), h14 b hb, h14 (b + 1) e, c_debt hc (by omega) (by omega), pb_b_some, em _ (dle hz (by omega) (by omega)), if_pos e]
    · rw [if_pos ((nI_leI (by omega) (by omega)).mpr (by omega)), if_pos (q_in (by omega) (by omega)), q_cl (by omega), h14 b hb, h14 0 hk0, c_debt hc (by omega) (by omega), pb_b_some, em _ (dle hz (by omega) (by omega)), if_neg e], by
    show min s _ ≤ 99
    omega⟩) k 0 pb_F 99 (by omega) (pb_Fgt (by omega)) (by omega)).1
/-- what the class finds -/
theorem c_find (hc : pb_CR (μ.1 5) 0 a) (hz : vOk M a) (hp : p < vP a) : ∃ μ1, (agC μ μ1 ∧ frC μ μ1 ∧ μ1.1 5 = μ.1 5) ∧ (pb_fst (fun k => (rgL a p k).testBit p) (vP a) 1 = none → pX3_find 4 (nI p) μ = some ((0 : Int32), μ1)) ∧ ∀ k, pb_fst (fun k => (rgL a p k).testBit p) (vP a) 1 = some k → pX3_find 4 (nI p) μ = some ((1 : Int32), μ1) ∧ μ1.1 12 2 = nI k ∧ ∀ j, j < k → μ1.1 14 j = nI (rgM a p k j) := by
  have hP := hz.1.1
  unfold pX3_find
  rw [pb_sA_ne (show (13 : Nat) ≠ 12 by decide), q_shl (show p < 31 by omega)]
  have hc1 : pb_CR ((pb_sA μ 12 (upd (μ.1 12) 2 (0 : Int32))).1 5) 0 a := by rw [pb_sA_ne (by decide)]; exact hc
  obtain ⟨f', h1, h2⟩ := c_findL hc1 hz hp (fun x3k55 μk55 =>
    pb_b (pX3_follow 4 (nI p) x3k55 μk55) (fun b59 μ59 =>
    some ((1 : Int32), μ59))) (vP a) 1 pb_F (upd (μ.1 13) 0 (nI (2 ^ p))) (by omega) (by omega) (pb_Fgt (by omega)) (fun j hj => by
      have : j = 0 := by omega
      subst this
      rw [upd_eq]
      rfl)
  cases e : pb_fst (fun k => (rgL a p k).testBit p) (vP a) 1 with
  | none =>
    refine ⟨pb_sA (pb_sA μ 12 (upd (μ.1 12) 2 (0 : Int32))) 13 f', ⟨(agC.sA (by omega)).tr (agC.sA (by omega)), (frC.sA (by omega)).tr (frC.sA (by omega)), by rw [pb_sA_ne (by decide), pb_sA_ne (by decide)]⟩, fun _ => h2 e, fun k h => by cases h⟩
  | some k =>
    obtain ⟨q1, q2⟩ := h1 k e
    obtain ⟨k1, k2, -, -⟩ := pb_fst_some e
    have hc2 : pb_CR ((pb_sA (pb_sA μ 12 (upd (μ.1 12) 2 (0 : Int32))) 13 f').1 5) 0 a := by rw [pb_sA_ne (by decide), pb_sA_ne (by decide)]; exact hc
    obtain ⟨g', f2, j1, j2, j3⟩ := c_folL (μ := pb_sA (pb_sA μ 12 (upd (μ.1 12) 2 (0 : Int32))) 13 f') hc2 hz hp (k := k) (by omega) (fun j hj => by rw [pb_sA_eq]; exact q1 j (by omega)) k 0 pb_F (μ.1 14) (upd (μ.1 12) 2 (0 : Int32)) (by omega) (pb_Fgt (by omega)) (by rw [upd_eq]; rfl) (fun j hj => by omega)
    have e0 : pb_sA (pb_sA (pb_sA (pb_sA μ 12 (upd (μ.1 12) 2 (0 : Int32))) 13 f') 14 (μ.1 14)) 12 (upd (μ.1 12) 2 (0 : Int32)) = pb_sA (pb_sA μ 12 (upd (μ.1 12) 2 (0 : Int32))) 13 f' := by
      have e1 := pb_sA_self (μ := pb_sA (pb_sA μ 12 (upd (μ.1 12) 2 (0 : Int32))) 13 f') (h := 14)
      rw [pb_sA_ne (by decide), pb_sA_ne (by decide)] at e1
      rw [e1]
      have e2 := pb_sA_self (μ := pb_sA (pb_sA μ 12 (upd (μ.1 12) 2 (0 : Int32))) 13 f') (h := 12)
      rw [pb_sA_ne (by decide), pb_sA_eq] at e2
      exact e2
    rw [e0] at j1
    refine ⟨pb_sA (pb_sA (pb_sA (pb_sA μ 12 (upd (μ.1 12) 2 (0 : Int32))) 13 f') 14 g') 12 f2, ⟨(((agC.sA (by omega)).tr (agC.sA (by omega))).tr (agC.sA (by omega))).tr (agC.sA (by omega)), (((frC.sA (by omega)).tr (frC.sA (by omega))).tr (frC.sA (by omega))).tr (frC.sA (by omega)), by rw [pb_sA_ne (by decide), pb_sA_ne (by decide), pb_sA_ne (by decide), pb_sA_ne (by decide)]⟩, fun h => (by cases h), fun k' hk' => ?_⟩
    cases hk'
    refine ⟨?_, by rw [pb_sA_eq]; exact j2, fun j hj => by rw [pb_sA_ne (by decide), pb_sA_eq]; exact j3 j hj⟩
    refine q2.trans ?_
    have j1' : pX3_follow 4 (nI p) (nI k) (pb_sA (pb_sA μ 12 (upd (μ.1 12) 2 (0 : Int32))) 13 f') = some ((), pb_sA (pb_sA (pb_sA (pb_sA μ 12 (upd (μ.1 12) 2 (0 : Int32))) 13 f') 14 g') 12 f2) := j1
    rw [j1', pb_b_some]
end RING3
