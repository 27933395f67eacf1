section RESTS3
variable {K : Nat} {S : pb_S} {μ : pb_M} {a : pb_Vg} {M : Nat}
theorem m_debt0 (hm : pb_MM μ 0 a) {o c : Nat} (ho : o < 4) (hc : c < 4) : pX7_debt (0 : Int32) (nI o) (nI c) μ = some (nI (45 * 0 + 28 + 4 * o + c), μ) ∧ pb_in (nI (45 * 0 + 28 + 4 * o + c)) 90 = true ∧ μ.1 21 (nI (45 * 0 + 28 + 4 * o + c)).toNatClampNeg = nI (vDebt a o c) := by
  refine ⟨m_debt, q_in (by omega) (by omega), ?_⟩
  rw [q_cl (by omega)]
  exact m0_debt hm ho hc
def rsK (a : pb_Vg) (o c D k : Nat) : Bool := rsO a o c (k % 6) && decide (k / 6 ≤ D)
theorem m_chJ1 (hm : pb_MM μ 0 a) {o c k : Nat} (ho : o < 4) (hc : c < 4) (hD : vDebt a o c ≤ 99) (hk : k < 24) : pX7_isChoice_J52 (nI o) (nI c) (nI k) (1 : Int32) μ = some (nI (if k / 6 ≤ vDebt a o c then 1 else 0), μ) := by
  obtain ⟨d1, d2, d3⟩ := m_debt0 hm ho hc
  unfold pX7_isChoice_J52
  rw [if_neg (by decide), d1, pb_b_some, if_pos d2, d3, show nI k / (6 : Int32) = nI (k / 6) from q_div (y := 6) (by omega) (by omega) (by omega)]
  by_cases h : k / 6 ≤ vDebt a o c
  · rw [if_neg (fun z => (show ¬ vDebt a o c < k / 6 by omega) ((nI_ltI (by omega) (by omega)).mp z)), if_pos h]
    rfl
  · rw [if_pos ((nI_ltI (by omega) (by omega)).mpr (by omega)), if_neg h]
    rfl
theorem m_chJ0 {o c k : Int32} : pX7_isChoice_J52 o c k (0 : Int32) μ = some (nI 0, μ) := by
  unfold pX7_isChoice_J52
  rw [if_pos rfl]
  rfl
theorem m_isCh (hm : pb_MM μ 0 a) (hs : vS a) (hB : vB a ≤ 5) (hob : ∀ b, b < vB a → a (27 + b) < 4) {o c k : Nat} (ho : o < 4) (hc : c < 4) (hD : vDebt a o c ≤ 99) (hk : k < 24) : pX7_isChoice (nI o) (nI c) (nI k) μ = some (nI (if rsK a o c (vDebt a o c) k = true then 1 else 0), μ) := by
  have e6 : pb_rem (nI k) (6 : Int32) = nI (k % 6) := q_rem (y := 6) (by omega) (by omega) (by omega)
  have hj : k % 6 < 6 := Nat.mod_lt _ (by omega)
  unfold pX7_isChoice pX7_isChoice_J47 pX7_isChoice_J51 rsK rsO
  rw [e6]
  generalize k % 6 = j at hj
  cases j with
  | zero =>
    rw [if_pos (by decide : nI 0 - (1 : Int32) < 0), m_chJ1 hm ho hc hD hk]
    simp
  | succ j =>
    have e1 : nI (j + 1) - (1 : Int32) = nI j := pk_sub (show 1 ≤ j + 1 by omega)
    rw [e1, if_neg (show ¬ nI j < (0 : Int32) from fun z => (show ¬ j < 0 by omega) ((nI_ltI (b := 0) (by omega) (by omega)).mp z)), m_isB hm.2.2.2 hB, pb_b_some, inR_nI (by omega) (by omega), Nat.add_sub_cancel, show ((j + 1) == 0) = false from rfl, Bool.false_or]
    by_cases h1 : j < vB a
    · rw [decide_eq_true h1, if_pos rfl, if_neg (by decide), show (8 : Int32) + nI j = nI (8 + j) from nI_add 8 j, if_pos (q_in (by omega) (by omega)), q_cl (by omega), m0_own hm (by omega), Bool.true_and]
      have hl := vClause_lt a c j
      have ha := hob j h1
      by_cases h2 : a (27 + j) = o
      · have hcl : pX7_clauseOn (0 : Int32) (nI c) (nI j) μ = some (nI (vClause a c j), μ) := m_clause hm hs (show 0 < 2 by omega) hc h1 hB ha
        rw [if_pos (by rw [h2]), hcl, pb_b_some]
        by_cases h3 : vClause a c j = 0
        · rw [h3, if_pos (show nI 0 = (0 : Int32) from rfl), m_chJ1 hm ho hc hD hk]
          simp [h2]
        · rw [if_neg (show ¬ nI (vClause a c j) = (0 : Int32) from fun q => h3 ((nI_eq (b := 0) (by omega) (by omega)).mp q)), m_chJ0]
          simp [h3]
      · rw [if_neg (fun q => h2 ((nI_eq (by omega) (by omega)).mp q)), m_chJ0]
        simp [h2]
    · rw [decide_eq_false h1, if_neg (show ¬ false = true from by decide), if_pos (show nI 0 = (0 : Int32) from rfl), m_chJ0]
      simp
def pb_GN (μ : pb_M) (a : pb_Vg) (D : Nat) : Prop := ∀ k, k < 24 → k / 6 ≤ D → μ.1 26 k = nI 0 - nI (rsC a D (k / 6) (k % 6)) ∧ μ.1 27 k = nI (rsG a D (k / 6) (k % 6)) - (1 : Int32)
theorem m_J99 {v1 v2 s0 s1 : Int32} {S2 : Int32 → pb_M → Option (Unit × pb_M)} {k : Nat} (hk : k < 24) : pX7_layGains_J99 v1 v2 S2 (nI k) s0 s1 (nI k) μ = S2 (nI (k + 1)) (pb_sA μ 27 (upd (μ.1 27) k (if k % 6 = 0 then nI (k / 6) else (s1 + s0) - (1 : Int32)))) := by
  unfold pX7_layGains_J99
  rw [if_pos (q_in (by omega) (by omega)), if_pos (q_in (by omega) (by omega)), q_cl (by omega), pb_sA_sA, pb_sA_sA, pb_sA_eq, upd_upd, upd_upd, upd_eq, show nI k + (1 : Int32) = nI (k + 1) from nI_add k 1, show nI k / (6 : Int32) = nI (k / 6) from q_div (y := 6) (by omega) (by omega) (by omega), show pb_rem (nI k) (6 : Int32) = nI (k % 6) from q_rem (y := 6) (by omega) (by omega) (by omega)]
  by_cases h : k % 6 = 0
  · rw [if_pos h, h, if_pos (show nI 0 = (0 : Int32) from rfl)]
  · rw [if_neg h, if_neg (show ¬ nI (k % 6) = (0 : Int32) from fun q => h ((nI_eq (b := 0) (by omega) (by omega)).mp q)), if_pos (q_in (by omega) (by omega)), if_pos (q_in (by omega) (by omega))]
theorem m_J74 {v1 v2 v4 v5 s0 s1 : Int32} {S2 : Int32 → pb_M → Option (Unit × pb_M)} {k : Nat} (hk : k < 24) : pX7_layGains_J74 v1 v2 S2 (nI k) v4 v5 s0 s1 (nI k) μ = S2 (nI (k + 1)) (pb_sA (pb_sA μ 26 (upd (μ.1 26) k (s1 - s0))) 27 (upd (μ.1 27) k (if k % 6 = 0 then nI (k / 6) else (nI (k / 6) + (if v4 ≤ v5 then v4 else v5)) - (1 : Int32)))) := by
  unfold pX7_layGains_J74
  rw [if_pos (q_in (by omega) (by omega)), q_cl (by omega), show nI k / (6 : Int32) = nI (k / 6) from q_div (y := 6) (by omega) (by omega) (by omega)]
  by_cases h : v4 ≤ v5
  · rw [if_pos h, if_pos h, m_J99 hk, pb_sA_ne (by decide)]
  · rw [if_neg h, if_neg h, m_J99 hk, pb_sA_ne (by decide)]
theorem m_J51 {v1 v2 v4 s0 : Int32} {S2 : Int32 → pb_M → Option (Unit × pb_M)} {k : Nat} (hk : k < 24) : pX7_layGains_J51 v1 v2 S2 (nI k) v4 s0 μ = S2 (nI (k + 1)) (pb_sA (pb_sA μ 26 (upd (μ.1 26) k ((-nI (k / 6)) - (if v4 ≤ (0 : Int32) then (0 : Int32) else s0)))) 27 (upd (μ.1 27) k (if k % 6 = 0 then nI (k / 6) else (nI (k / 6) + (if v4 ≤ s0 then v4 else s0)) - (1 : Int32)))) := by
  unfold pX7_layGains_J51
  rw [show nI k / (6 : Int32) = nI (k / 6) from q_div (y := 6) (by omega) (by omega) (by omega), m_J74 hk, m_J74 hk]
  by_cases h : v4 ≤ (0 : Int32)
  · rw [if_pos h, if_pos h]
  · rw [if_neg h, if_neg h]
theorem neg_add (x y : Nat) : (-nI x) - nI y = nI 0 - nI (x + y) := by
  rw [← nI_add, show nI 0 = (0 : Int32) from rfl, Int32.sub_eq_add_neg, Int32.sub_eq_add_neg, Int32.neg_add, Int32.zero_add]
  first | rfl | rw [Int32.sub_eq_add_neg]
theorem m_gains (hm : pb_MM μ 0 a) (hs : vS a) {o c : Nat} (ho : o < 4) (hc : c < 4) (hD : vDebt a o c ≤ 99) : ∀ (cc k n : Nat) (r1 r2 : Nat → Int32), k + cc = 24 → cc < n → (∀ j, j < k → j / 6 ≤ vDebt a o c → r1 j = nI 0 - nI (rsC a (vDebt a o c) (j / 6) (j % 6)) ∧ r2 j = nI (rsG a (vDebt a o c) (j / 6) (j % 6)) - (1 : Int32)) → ∃ r1' r2', pX7_layGains_L2 (nI o) (nI c) n (nI k) (pb_sA (pb_sA μ 26 r1) 27 r2) = some ((), pb_sA (pb_sA μ 26 r1') 27 r2') ∧ (∀ j, j < 24 → j / 6 ≤ vDebt a o c → r1' j = nI 0 - nI (rsC a (vDebt a o c) (j / 6) (j % 6)) ∧ r2' j = nI (rsG a (vDebt a o c) (j / 6) (j % 6)) - (1 : Int32))
  | _, _, 0, _, _, _, hn, _ => by omega
  | 0, k, n + 1, r1, r2, hb, _, hr => by
    refine ⟨r1, r2, ?_, fun j hj => hr j (by omega)⟩
    rw [pX7_layGains_L2, if_pos (show (24 : Int32) ≤ nI k from (nI_leI (a := 24) (by omega) (by omega)).mpr (by omega))]
  | cc + 1, k, n + 1, r1, r2, hb, hn, hr => by
    have hm1 : pb_MM (pb_sA (pb_sA μ 26 r1) 27 r2) 0 a := by
      unfold pb_MM
      rw [pb_sA_ne (by decide), pb_sA_ne (by decide), pb_sA_ne (by decide), pb_sA_ne (by decide), pb_sA_ne (by decide), pb_sA_ne (by decide)]
      exact hm
    obtain ⟨d1, d2, d3⟩ := m_debt0 hm1 ho hc
    have e26 : (pb_sA (pb_sA μ 26 r1) 27 r2).1 26 = r1 := by rw [pb_sA_ne (by decide), pb_sA_eq]
    have e27 : (pb_sA (pb_sA μ 26 r1) 27 r2).1 27 = r2 := by rw [pb_sA_eq]
    have ecm : ∀ x y, pb_sA (pb_sA (pb_sA (pb_sA μ 26 r1) 27 r2) 26 x) 27 y = pb_sA (pb_sA μ 26 x) 27 y := fun x y => by
      have : pb_sA (pb_sA (pb_sA μ 26 r1) 27 r2) 26 x = pb_sA (pb_sA (pb_sA μ 26 r1) 26 x) 27 r2 := by
        unfold pb_sA
        congr 1
        funext h'
        by_cases q : h' = 26
        · simp [q]
        · simp [q]
      rw [this, pb_sA_sA, pb_sA_sA]
    have hw := hs (32 + (k % 6 - 1)) (by omega)
    have hstep : pX7_layGains_L2 (nI o) (nI c) (n + 1) (nI k) (pb_sA (pb_sA μ 26 r1) 27 r2) = pX7_layGains_L2 (nI o) (nI c) n (nI (k + 1)) (pb_sA (pb_sA μ 26 (upd r1 k ((-nI (k / 6)) - (if nI (vDebt a o c) - nI (k / 6) ≤ (0 : Int32) then (0 : Int32) else nI (if k % 6 = 0 then 0 else a (32 + (k % 6 - 1))))))) 27 (upd r2 k (if k % 6 = 0 then nI (k / 6) else (nI (k / 6) + (if nI (vDebt a o c) - nI (k / 6) ≤ nI (if k % 6 = 0 then 0 else a (32 + (k % 6 - 1))) then nI (vDebt a o c) - nI (k / 6) else nI (if k % 6 = 0 then 0 else a (32 + (k % 6 - 1))))) - (1 : Int32)))) := by
      rw [pX7_layGains_L2, if_neg (show ¬ (24 : Int32) ≤ nI k from fun z => (show ¬ 24 ≤ k by omega) ((nI_leI (a := 24) (by omega) (by omega)).mp z)), d1, pb_b_some, if_pos d2, d3, show nI k / (6 : Int32) = nI (k / 6) from q_div (y := 6) (by omega) (by omega) (by omega), show pb_rem (nI k) (6 : Int32) = nI (k % 6) from q_rem (y := 6) (by omega) (by omega) (by omega)]
      by_cases h : k % 6 = 0
      · rw [h, if_pos (show nI 0 = (0 : Int32) from rfl), m_J51 (by omega), e26, e27, ecm, h]
        rfl
      · rw [if_neg (show ¬ nI (k % 6) = (0 : Int32) from fun q => h ((nI_eq (b := 0) (by omega) (by omega)).mp q)), show (13 : Int32) + nI (k % 6) - (1 : Int32) = nI (13 + (k % 6 - 1)) from by
          rw [show (13 : Int32) + nI (k % 6) = nI (13 + k % 6) from nI_add 13 _, show nI (13 + k % 6) - (1 : Int32) = nI (13 + k % 6 - 1) from pk_sub (show 1 ≤ 13 + k % 6 by omega)]
          exact congrArg nI (by omega), if_pos (q_in (by omega) (by omega)), q_cl (by omega), m0_wor hm1 (by omega), m_J51 (by omega), e26, e27, ecm, if_neg h, if_neg h, if_neg h]
    have hnew : k / 6 ≤ vDebt a o c → ((-nI (k / 6)) - (if nI (vDebt a o c) - nI (k / 6) ≤ (0 : Int32) then (0 : Int32) else nI (if k % 6 = 0 then 0 else a (32 + (k % 6 - 1))))) = nI 0 - nI (rsC a (vDebt a o c) (k / 6) (k % 6)) ∧ (if k % 6 = 0 then nI (k / 6) else (nI (k / 6) + (if nI (vDebt a o c) - nI (k / 6) ≤ nI (if k % 6 = 0 then 0 else a (32 + (k % 6 - 1))) then nI (vDebt a o c) - nI (k / 6) else nI (if k % 6 = 0 then 0 else a (32 + (k % 6 - 1))))) - (1 : Int32)) = nI (rsG a (vDebt a o c) (k / 6) (k % 6)) - (1 : Int32) := fun hle => by
      rw [pk_sub hle]
      constructor
      · unfold rsC
        by_cases h2 : k / 6 < vDebt a o c
        · rw [if_neg (show ¬ nI (vDebt a o c - k / 6) ≤ (0 : Int32) from fun z => (show ¬ vDebt a o c - k / 6 ≤ 0 by omega) ((nI_leI (b := 0) (by omega) (by omega)).mp z)), neg_add]
          by_cases h : k % 6 = 0
          · rw [if_pos h, if_neg (fun q => q.1 h)]
          · rw [if_neg h, if_pos ⟨h, h2⟩]
        · rw [if_pos (show nI (vDebt a o c - k / 6) ≤ (0 : Int32) from (nI_leI (b := 0) (by omega) (by omega)).mpr (by omega)), if_neg (fun q => h2 q.2)]
          exact neg_add (k / 6) 0
      · unfold rsG
        by_cases h : k % 6 = 0
        · rw [if_pos h, if_pos h, show nI (k / 6 + 1) - (1 : Int32) = nI (k / 6) from pk_sub (show 1 ≤ k / 6 + 1 by omega)]
        · rw [if_neg h, if_neg h, if_neg h]
          by_cases h2 : vDebt a o c - k / 6 ≤ a (32 + (k % 6 - 1))
          · rw [if_pos ((nI_leI (by omega) (by omega)).mpr h2), nI_add, Nat.min_eq_right h2]
          · rw [if_neg (fun z => h2 ((nI_leI (by omega) (by omega)).mp z)), nI_add, Nat.min_eq_left (by omega)]
    rw [hstep]
    refine m_gains hm hs ho hc hD cc (k + 1) n _ _ (by omega) (by omega) (fun j hj hjD => ?_)
    by_cases e : j = k
    · subst e
      rw [upd_eq, upd_eq]
      exact hnew hjD
    · rw [upd_ne e, upd_ne e]
      exact hr j (by omega) hjD
theorem neg_lt {x y : Nat} (hx : x < 2000000) (hy : y < 2000000) : (nI 0 - nI x < nI 0 - nI y) = (y < x) := by
  refine propext ?_
  rw [Int32.lt_iff_toInt_lt, pk_sub_toInt (by omega) (by omega), pk_sub_toInt (by omega) (by omega)]
  omega
theorem dec_lt {x y : Nat} (hx : x < 2000000) (hy : y < 2000000) : (nI x - (1 : Int32) < nI y - (1 : Int32)) = (x < y) := by
  have e : ∀ z, z < 2000000 → (nI z - (1 : Int32)).toInt = (z : Int) - 1 := fun z hz => pk_sub_toInt (b := 1) (by omega) (by omega)
  refine propext ?_
  rw [Int32.lt_iff_toInt_lt, e x hx, e y hy]
  omega
end RESTS3
