/-! a beast in the pound over days: shut so many days, or home and worth nothing -/
section TAKE
variable {K : Nat} {S : pb_S}
def tS (p b j : Nat) (z : pb_Vg) : Prop := (z (42 + b) = p + 1 ∧ z (47 + b) = j) ∨ (z (42 + b) = 0 ∧ z (32 + b) = 0)
theorem tS.at {p b j : Nat} {z z' : pb_Vg} (h : tS p b j z) (h1 : z' (42 + b) = z (42 + b)) (h2 : z' (47 + b) = z (47 + b)) (h3 : z' (32 + b) = z (32 + b)) : tS p b j z' := by
  unfold tS
  rw [h1, h2, h3]
  exact h
theorem vPassB_oth {z : pb_Vg} {b b' j : Nat} (hb : b < 5) (hb' : b' < 5) (hne : b' ≠ b) (ho : z (27 + b) < 4) (hj : j = 42 + b' ∨ j = 47 + b' ∨ j = 32 + b') : vPassB z b j = z j := by
  unfold vPassB vFeed vHome
  repeat' split
  all_goals (try rfl)
  all_goals simp (disch := omega) only [pb_u_ne]
theorem tS.feed {p b j : Nat} {z : pb_Vg} (h : tS p b j z) (hb : b < 5) (ho : z (27 + b) < 4) : tS p b (j + 1) (vPassB z b) := by
  rcases h with ⟨h1, h2⟩ | ⟨h1, h2⟩
  · unfold vPassB
    rw [if_neg (by omega), vFeed_eq z hb]
    by_cases e : 0 < z (3 + z (27 + b))
    · rw [if_pos e]
      left
      constructor
      · rw [pb_u_ne (by omega), pb_u_ne (by omega), h1]
      · rw [pb_u_ne (by omega), pb_u_eq, h2]
    · rw [if_neg e]
      by_cases e2 : z (32 + b) - (if z (37 + b) = 2 then 2 else 1) = 0
      · rw [if_pos e2]
        right
        constructor
        · unfold vHome
          rw [pb_u_ne (by omega), pb_u_ne (by omega), pb_u_eq]
        · rw [pb_u_eq]
      · rw [if_neg e2]
        left
        constructor
        · rw [pb_u_ne (by omega), pb_u_ne (by omega), h1]
        · rw [pb_u_ne (by omega), pb_u_eq, h2]
  · right
    unfold vPassB
    rw [if_pos h1]
    exact ⟨h1, h2⟩
theorem tS.it {p b j : Nat} (hb : b < 5) : ∀ (c i : Nat) (z : pb_Vg), i + c ≤ 5 → (∀ q, q < 5 → q < i + c → z (27 + q) < 4) → tS p b j z → tS p b (if i ≤ b ∧ b < i + c then j + 1 else j) (pb_it (fun b z => vPassB z b) c i z)
  | 0, i, z, _, _, h => by
    rw [if_neg (by omega)]
    exact h
  | c + 1, i, z, hi, ho, h => by
    show tS p b _ (pb_it (fun b z => vPassB z b) c (i + 1) (vPassB z i))
    have hlo : ∀ q, q < 5 → q < i + 1 + c → vPassB z i (27 + q) < 4 := fun q hq hq2 => by
      rw [vPassB_lo (by omega) (ho i (by omega) (by omega)) (by omega)]
      exact ho q hq (by omega)
    by_cases e : i = b
    · subst e
      have h1 := tS.it (p := p) (j := j + 1) hb c (i + 1) (vPassB z i) (by omega) hlo (h.feed hb (ho i (by omega) (by omega)))
      rw [if_neg (by omega)] at h1
      rw [if_pos (by omega)]
      exact h1
    · have ho1 := ho i (by omega) (by omega)
      have h1 := tS.it (p := p) (j := j) hb c (i + 1) (vPassB z i) (by omega) hlo (h.at (vPassB_oth (b' := b) (by omega) hb (by omega) ho1 (by omega)) (vPassB_oth (b' := b) (by omega) hb (by omega) ho1 (by omega)) (vPassB_oth (b' := b) (by omega) hb (by omega) ho1 (by omega)))
      by_cases e2 : i ≤ b ∧ b < i + (c + 1)
      · rw [if_pos e2]
        rw [if_pos (by omega)] at h1
        exact h1
      · rw [if_neg e2]
        rw [if_neg (by omega)] at h1
        exact h1
theorem tS.pass {p b j M : Nat} {z : pb_Vg} (h : tS p b j z) (hz : vOk M z) (hb : b < vB z) : tS p b (j + 1) (vPass z) := by
  have hB := hz.1.2
  have hP := hz.1.1
  have h1 := tS.it (p := p) (j := j) (b := b) (by omega) (vB z) 0 z (by omega) (fun q _ hq => by have := (hz.2.1 q (by omega)).1; omega) h
  rw [if_pos (by omega)] at h1
  unfold vPass
  exact h1.at (pb_u_ne (by omega)) (pb_u_ne (by omega)) (pb_u_ne (by omega))
/-- three days on the trial -/
theorem tS.three {p b M : Nat} {z : pb_Vg} (h : tS p b 0 z) (hz : vOk M z) (hM : 100 ≤ M) (hb : b < vB z) : tS p b 3 (vDays 3 z) ∧ vOk (M + 18) (vDays 3 z) ∧ (∀ j, (j < 2 ∨ (7 ≤ j ∧ j < 32) ∨ (37 ≤ j ∧ j < 42)) → vDays 3 z j = z j) := by
  obtain ⟨a1, a2⟩ := hz.pass hM
  obtain ⟨b1, b2⟩ := a1.pass (by omega)
  obtain ⟨c1, c2⟩ := b1.pass (by omega)
  have e1 : vB (vPass z) = vB z := a2 1 (by omega)
  have e2 : vB (vPass (vPass z)) = vB z := (b2 1 (by omega)).trans e1
  exact ⟨((h.pass hz hb).pass a1 (by omega)).pass b1 (by omega), c1, fun j hj => (c2 j hj).trans ((b2 j hj).trans (a2 j hj))⟩
theorem c_owedL {μ : pb_M} {v1 v2 v3 : Int32} : ∀ (c b n M : Nat) (f : Nat → Int32) (z : pb_Vg), b + c = 3 → c < n → 100 ≤ M → M + 6 * c ≤ 800000 → pb_CR f 0 z → vOk M z → ∃ f', (∀ Kc, pX6_owedAfterKeeping_L23 v1 v2 v3 Kc n (nI b) (pb_sA μ (6 + 1) f) = Kc (pb_sA μ (6 + 1) f')) ∧ pb_CR f' 0 (pb_it (fun _ z => vPass z) c b z)
  | _, _, 0, _, _, _, _, hn, _, _, _, _ => by omega
  | 0, b, n + 1, M, f, z, hb, _, hM, hM2, hc, hz => by
    refine ⟨f, fun Kc => ?_, hc⟩
    rw [pX6_owedAfterKeeping_L23, if_pos (show (3 : Int32) ≤ nI b from (nI_leI (a := 3) (by omega) (by omega)).mpr (by omega))]
  | c + 1, b, n + 1, M, f, z, hb, hn, hM, hM2, hc, hz => by
    have hc' : pb_CR ((pb_sA μ (6 + 1) f).1 (6 + 1)) 0 z := by rw [pb_sA_eq]; exact hc
    obtain ⟨f1, g1, g2⟩ := c_pass hc' hz hM (by omega)
    rw [pb_sA_sA] at g1
    obtain ⟨f', k1, k2⟩ := c_owedL c (b + 1) n (M + 6) f1 (vPass z) (by omega) (by omega) (by omega) (by omega) g2 (hz.pass hM).1
    refine ⟨f', fun Kc => ?_, k2⟩
    rw [pX6_owedAfterKeeping_L23, if_neg (show ¬ (3 : Int32) ≤ nI b from fun z => (show ¬ 3 ≤ b by omega) ((nI_leI (a := 3) (by omega) (by omega)).mp z)), g1, pb_b_some, show nI b + (1 : Int32) = nI (b + 1) from nI_add b 1]
    exact k1 Kc
theorem m_owedL {μ : pb_M} {v1 v2 v3 : Int32} : ∀ (c b n M : Nat) (r : Nat → Int32) (z : pb_Vg), b + c = 3 → c < n → 100 ≤ M → M + 6 * c ≤ 800000 → pb_MM (pb_sA μ 21 r) 1 z → vOk M z → ∃ r', (∀ Kc, pX7_owedIf_L14 v1 v2 v3 Kc n (nI b) (pb_sA μ 21 r) = Kc (pb_sA μ 21 r')) ∧ pb_MM (pb_sA μ 21 r') 1 (pb_it (fun _ z => vPass z) c b z) ∧ pb_Fr r r' 45
  | _, _, 0, _, _, _, _, hn, _, _, _, _ => by omega
  | 0, b, n + 1, M, r, z, hb, _, hM, hM2, hm, hz => by
    refine ⟨r, fun Kc => ?_, hm, pb_Fr.rf⟩
    rw [pX7_owedIf_L14, if_pos (show (3 : Int32) ≤ nI b from (nI_leI (a := 3) (by omega) (by omega)).mpr (by omega))]
  | c + 1, b, n + 1, M, r, z, hb, hn, hM, hM2, hm, hz => by
    obtain ⟨r1, g1, g2, g3⟩ := m_pass hm (by omega) hz hM (by omega)
    rw [pb_sA_sA] at g1 g2
    rw [pb_sA_eq] at g3
    obtain ⟨r', k1, k2, k3⟩ := m_owedL c (b + 1) n (M + 6) r1 (vPass z) (by omega) (by omega) (by omega) (by omega) g2 (hz.pass hM).1
    refine ⟨r', fun Kc => ?_, k2, g3.tr k3⟩
    rw [pX7_owedIf_L14, if_neg (show ¬ (3 : Int32) ≤ nI b from fun z => (show ¬ 3 ≤ b by omega) ((nI_leI (a := 3) (by omega) (by omega)).mp z)), show (1 : Int32) = nI 1 from rfl, g1, pb_b_some, nI_add]
    exact k1 Kc
def vOwed (a : pb_Vg) (p o b : Nat) : Nat := vDebt a o p - vDays 3 (vShut a p b) (32 + b)
theorem vDebt_at {a a' : pb_Vg} (h : ∀ j, (7 ≤ j ∧ j < 27) → a' j = a j) {i j : Nat} (hi : i < 4) (hj : j < 4) : vDebt a' i j = vDebt a i j := h _ (by omega)
theorem c_owed {μ : pb_M} {a : pb_Vg} {M : Nat} (hc : pb_CR (μ.1 5) 0 a) (hz : vOk M a) (hM : 100 ≤ M) (hM2 : M ≤ 700000) {p o b : Nat} (hp : p < vP a) (ho : o < vP a) (hpo : p ≠ o) (hb : b < vB a) (hw : a (32 + b) ≠ 0) (hown : a (27 + b) = o) : ∃ f, pX6_owedAfterKeeping (nI p) (nI o) (nI b) μ = some (nI (vOwed a p o b), pb_sA μ (6 + 1) f) := by
  have hP := hz.1.1
  have hB := hz.1.2
  obtain ⟨f1, g1, g2⟩ := c_trial hc
  have g2' : pb_CR ((pb_sA μ (6 + 1) f1).1 (6 + 1)) 0 a := by rw [pb_sA_eq]; exact g2
  obtain ⟨f2, g3, g4⟩ := c_shutIn g2' (p := p) (b := b) (by omega)
  rw [pb_sA_sA] at g3
  have hz2 : vOk M (vShut a p b) := hz.shut hb hp (by omega) hw hM
  have hB2 : vB (vShut a p b) = vB a := by unfold vB vShut; rw [pb_u_ne (by omega), pb_u_ne (by omega)]
  have ht : tS p b 0 (vShut a p b) := by
    left
    unfold vShut
    exact ⟨by rw [pb_u_ne (by omega), pb_u_eq], by rw [pb_u_eq]⟩
  obtain ⟨t1, t2, t3⟩ := ht.three hz2 hM (by omega)
  obtain ⟨f3, g5, g6⟩ := c_owedL (μ := μ) (v1 := nI p) (v2 := nI o) (v3 := nI b) 3 0 pb_F M f2 (vShut a p b) (by omega) (pb_Fgt (by omega)) hM (by omega) g4 hz2
  have g6 : pb_CR f3 0 (vDays 3 (vShut a p b)) := g6
  have g6' : pb_CR ((pb_sA μ (6 + 1) f3).1 (6 + 1)) 0 (vDays 3 (vShut a p b)) := by rw [pb_sA_eq]; exact g6
  have hs3 := t2.s (by omega)
  have hd : vDebt (vDays 3 (vShut a p b)) o p = vDebt a o p := vDebt_at (fun j hj => (t3 j (by omega)).trans (by unfold vShut; rw [pb_u_ne (by omega), pb_u_ne (by omega)])) (by omega) (by omega)
  have hw3 : vDays 3 (vShut a p b) (27 + b) = o := (t3 _ (by omega)).trans (by unfold vShut; rw [pb_u_ne (by omega), pb_u_ne (by omega)]; exact hown)
  have hB3 : vB (vDays 3 (vShut a p b)) = vB a := (t3 1 (by omega)).trans hB2
  unfold vOwed
  generalize vDays 3 (vShut a p b) = z at *
  unfold pX6_owedAfterKeeping
  rw [g1, pb_b_some, g3, pb_b_some, show (0 : Int32) = nI 0 from rfl]
  rcases t1 with ⟨r1, r2⟩ | ⟨r1, r2⟩
  · obtain ⟨f4, k1, k2⟩ := c_keep g6' t2 (by omega) (b := b) (by omega) (by omega)
    rw [pb_sA_sA] at k1
    have k2' : pb_CR ((pb_sA μ (6 + 1) f4).1 (6 + 1)) 0 (vKeep z b) := by rw [pb_sA_eq]; exact k2
    refine ⟨f4, (g5 _).trans ?_⟩
    have ed : vDebt (vKeep z b) o p = vDebt a o p - z (32 + b) := by
      unfold vKeep vHome vLess
      rw [hw3, r1, Nat.add_sub_cancel, hd]
      unfold vDebt
      rw [pb_u_ne (by omega), pb_u_ne (by omega), pb_u_ne (by omega), pb_u_eq]
    rw [c_ripe g6' hs3 (by omega), if_pos (by omega), pb_b_some, if_neg (by decide), k1, pb_b_some, c_debt k2' (by omega) (by omega), pb_b_some, ed]
  · refine ⟨f3, (g5 _).trans ?_⟩
    rw [c_ripe g6' hs3 (by omega), if_neg (by omega), pb_b_some, if_pos rfl, c_debt g6' (by omega) (by omega), pb_b_some, hd, r2, Nat.sub_zero]
theorem m_owed {μ : pb_M} {a : pb_Vg} {M : Nat} (hm : pb_MM μ 0 a) (hz : vOk M a) (hM : 100 ≤ M) (hM2 : M ≤ 700000) {p o b : Nat} (hp : p < vP a) (ho : o < vP a) (hpo : p ≠ o) (hb : b < vB a) (hw : a (32 + b) ≠ 0) (hown : a (27 + b) = o) : ∃ r, pX7_owedIf (nI p) (nI o) (nI b) μ = some (nI (vOwed a p o b), pb_sA μ 21 r) ∧ pb_Fr (μ.1 21) r 45 := by
  have hP := hz.1.1
  have hB := hz.1.2
  obtain ⟨r1, g1, g2, g3⟩ := m_trial hm
  obtain ⟨r2, g4, g5, g6⟩ := m_shut g2.1 (by omega) (p := p) (b := b) (by omega)
  rw [pb_sA_sA] at g4
  rw [pb_sA_eq] at g6
  have hz2 : vOk M (vShut a p b) := hz.shut hb hp (by omega) hw hM
  have hB2 : vB (vShut a p b) = vB a := by unfold vB vShut; rw [pb_u_ne (by omega), pb_u_ne (by omega)]
  have hsm := vShut_same (a := a) (p := p) (b := b) (by omega) hB
  have g7 := g2.with g5 hsm.1 hsm.2.1 hsm.2.2
  rw [pb_sA_sA] at g7
  have ht : tS p b 0 (vShut a p b) := by
    left
    unfold vShut
    exact ⟨by rw [pb_u_ne (by omega), pb_u_eq], by rw [pb_u_eq]⟩
  obtain ⟨t1, t2, t3⟩ := ht.three hz2 hM (by omega)
  obtain ⟨r3, k1, k2, k3⟩ := m_owedL (μ := μ) (v1 := nI p) (v2 := nI o) (v3 := nI b) 3 0 pb_F M r2 (vShut a p b) (by omega) (pb_Fgt (by omega)) hM (by omega) g7 hz2
  have hfr : pb_Fr (μ.1 21) r3 45 := (g3.tr g6).tr k3
  have k2 : pb_MM (pb_sA μ 21 r3) 1 (vDays 3 (vShut a p b)) := k2
  have q1 : (pb_sA μ 21 r3).1 21 (58 + b) = nI (vDays 3 (vShut a p b) (32 + b)) := k2.1.wor (by omega)
  have q2 : (pb_sA μ 21 r3).1 21 (28 + 4 * o + p) = nI (vDebt a o p) := by
    rw [pb_sA_eq, hfr _ (by omega)]
    exact m0_debt hm (by omega) (by omega)
  have hd := (hz.2.2.1 o p (by omega) (by omega)).1
  have hx : vDays 3 (vShut a p b) (32 + b) < 1000000 := t2.s (by omega) _ (by omega)
  refine ⟨r3, ?_, hfr⟩
  unfold vOwed
  generalize vDays 3 (vShut a p b) (32 + b) = x at *
  unfold pX7_owedIf
  rw [g1, pb_b_some, show (1 : Int32) = nI 1 from rfl, g4, pb_b_some, show (0 : Int32) = nI 0 from rfl]
  refine (k1 _).trans ?_
  rw [m_debt, pb_b_some, show 45 * 0 + 28 + 4 * o + p = 28 + 4 * o + p by omega, if_pos (q_in (by omega) (by omega)), show (58 : Int32) + nI b = nI (58 + b) from nI_add 58 b, if_pos (q_in (by omega) (by omega)), q_cl (by omega), q_cl (by omega), q1, q2]
  by_cases e : x ≤ vDebt a o p
  · rw [q_sub e, if_pos ((nI_leI (by omega) (by omega)).mpr (by omega))]
  · have h9 : nI (vDebt a o p) - nI x < (0 : Int32) := pk_sneg (by omega) (by omega)
    rw [if_neg (show ¬ nI 0 ≤ nI (vDebt a o p) - nI x from Int32.not_le.mpr h9), show vDebt a o p - x = 0 by omega]
end TAKE
