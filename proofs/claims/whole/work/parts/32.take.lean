/-! a beast in the pound over days: shut so many days, or home and worth nothing -/
section TAKE
variable {K : Nat} {S : pb_S}
def tS (p b j : Nat) (z : pb_Vg) : Prop := (z (42 + b) = p + 1 ∧ z (47 + b) = j) ∨ (z (42 + b) = 0 ∧ z (32 + b) = 0)
theorem tS.at {p b j : Nat} {z z' : pb_Vg} (h : tS p b j z) (h1 : z' (42 + b) = z (42 + b)) (h2 : z' (47 + b) = z (47 + b)) (h3 : z' (32 + b) = z (32 + b)) : tS p b j z' := by
  unfold tS
  rw [h1, h2, h3]
  exact h
theorem vPassB_oth {z : pb_Vg} {b b' j : Nat} (hb : b < 5) (hb' : b' < 5) (hne : b' ≠ b) (ho : z (27 + b) < 4) (hj : j = 42 + b' ∨ j = 47 + b' ∨ j = 32 + b') : vPassB z b j = z j := by
  unfold vPassB vFeed vHome
  repeat' split
  all_goals (try rfl)
  all_goals simp (disch := omega) only [pb_u_ne]
theorem tS.feed {p b j : Nat} {z : pb_Vg} (h : tS p b j z) (hb : b < 5) (ho : z (27 + b) < 4) : tS p b (j + 1) (vPassB z b) := by
  rcases h with ⟨h1, h2⟩ | ⟨h1, h2⟩
  · unfold vPassB
    rw [if_neg (by omega), vFeed_eq z hb]
    by_cases e : 0 < z (3 + z (27 + b))
    · rw [if_pos e]
      left
      constructor
      · rw [pb_u_ne (by omega), pb_u_ne (by omega), h1]
      · rw [pb_u_ne (by omega), pb_u_eq, h2]
    · rw [if_neg e]
      by_cases e2 : z (32 + b) - (if z (37 + b) = 2 then 2 else 1) = 0
      · rw [if_pos e2]
        right
        constructor
        · unfold vHome
          rw [pb_u_ne (by omega), pb_u_ne (by omega), pb_u_eq]
        · rw [pb_u_eq]
      · rw [if_neg e2]
        left
        constructor
        · rw [pb_u_ne (by omega), pb_u_ne (by omega), h1]
        · rw [pb_u_ne (by omega), pb_u_eq, h2]
  · right
    unfold vPassB
    rw [if_pos h1]
    exact ⟨h1, h2⟩
theorem tS.it {p b j : Nat} (hb : b < 5) : ∀ (c i : Nat) (z : pb_Vg), i + c ≤ 5 → (∀ q, q < 5 → q < i + c → z (27 + q) < 4) → tS p b j z → tS p b (if i ≤ b ∧ b < i + c then j + 1 else j) (pb_it (fun b z => vPassB z b) c i z)
  | 0, i, z, _, _, h => by
    rw [if_neg (by omega)]
    exact h
  | c + 1, i, z, hi, ho, h => by
    show tS p b _ (pb_it (fun b z => vPassB z b) c (i + 1) (vPassB z i))
    have hlo : ∀ q, q < 5 → q < i + 1 + c → vPassB z i (27 + q) < 4 := fun q hq hq2 => by
      rw [vPassB_lo (by omega) (ho i (by omega) (by omega)) (by omega)]
      exact ho q hq (by omega)
    by_cases e : i = b
    · subst e
      have h1 := tS.it (p := p) (j := j + 1) hb c (i + 1) (vPassB z i) (by omega) hlo (h.feed hb (ho i (by omega) (by omega)))
      rw [if_neg (by omega)] at h1
      rw [if_pos (by omega)]
      exact h1
    · have ho1 := ho i (by omega) (by omega)
      have h1 := tS.it (p := p) (j := j) hb c (i + 1) (vPassB z i) (by omega) hlo (h.at (vPassB_oth (b' := b) (by omega) hb (by omega) ho1 (by omega)) (vPassB_oth (b' := b) (by omega) hb (by omega) ho1 (by omega)) (vPassB_oth (b' := b) (by omega) hb (by omega) ho1 (by omega)))
      by_cases e2 : i ≤ b ∧ b < i + (c + 1)
      · rw [if_pos e2]
        rw [if_pos (by omega)] at h1
        exact h1
      · rw [if_neg e2]
        rw [if_neg (by omega)] at h1
        exact h1
theorem tS.pass {p b j M : Nat} {z : pb_Vg} (h : tS p b j z) (hz : vOk M z) (hb : b < vB z) : tS p b (j + 1) (vPass z) := by
  have hB := hz.1.2
  have hP := hz.1.1
  have h1 := tS.it (p := p) (j := j) (b := b) (by omega) (vB z) 0 z (by omega) (fun q _ hq => by have := (hz.2.1 q (by omega)).1; omega) h
  rw [if_pos (by omega)] at h1
  unfold vPass
  exact h1.at (pb_u_ne (by omega)) (pb_u_ne (by omega)) (pb_u_ne (by omega))
/-- three days on the trial -/
theorem tS.three {p b M : Nat} {z : pb_Vg} (h : tS p b 0 z) (hz : vOk M z) (hM : 100 ≤ M) (hb : b < vB z) : tS p b 3 (vDays 3 z) ∧ vOk (M + 18) (vDays 3 z) ∧ (∀ j, (j < 2 ∨ (7 ≤ j ∧ j < 32) ∨ (37 ≤ j ∧ j < 42)) → vDays 3 z j = z j) := by
  obtain ⟨a1, a2⟩ := hz.pass hM
  obtain ⟨b1, b2⟩ := a1.pass (by omega)
  obtain ⟨c1, c2⟩ := b1.pass (by omega)
  have e1 : vB (vPass z) = vB z := a2 1 (by omega)
  have e2 : vB (vPass (vPass z)) = vB z := (b2 1 (by omega)).trans e1
  exact ⟨((h.pass hz hb).pass a1 (by omega)).pass b1 (by omega), c1, fun j hj => (c2 j hj).trans ((b2 j hj).trans (a2 j hj))⟩
theorem c_owedL {μ : pb_M} {v1 v2 v3 : Int32} : ∀ (c b n M : Nat) (f : Nat → Int32) (z : pb_Vg), b + c = 3 → c < n → 100 ≤ M → M + 6 * c ≤ 800000 → pb_CR f 0 z → vOk M z → ∃ f', (∀ Kc, pX6_owedAfterKeeping_L23 v1 v2 v3 Kc n (nI b) (pb_sA μ (6 + 1) f) = Kc (pb_sA μ (6 + 1) f')) ∧ pb_CR f' 0 (pb_it (fun _ z => vPass z) c b z)
  | _, _, 0, _, _, _, _, hn, _, _, _, _ => by omega
  | 0, b, n + 1, M, f, z, hb, _, hM, hM2, hc, hz => by
    refine ⟨f, fun Kc => ?_, hc⟩
    rw [pX6_owedAfterKeeping_L23, if_pos (show (3 : Int32) ≤ nI b from (nI_leI (a := 3) (by omega) (by omega)).mpr (by omega))]
  | c + 1, b, n + 1, M, f, z, hb, hn, hM, hM2, hc, hz => by
    have hc' : pb_CR ((pb_sA μ (6 + 1) f).1 (6 + 1)) 0 z := by rw [pb_sA_eq]; exact hc
    obtain ⟨f1, g1, g2⟩ := c_pass hc' hz hM (by omega)
    rw [pb_sA_sA] at g1
    obtain ⟨f', k1, k2⟩ := c_owedL c (b + 1) n (M + 6) f1 (vPass z) (by omega) (by omega) (by omega) (by omega) g2 (hz.pass hM).1
    refine ⟨f', fun Kc => ?_, k2⟩
    rw [pX6_owedAfterKeeping_L23, if_neg (show ¬ (3 : Int32) ≤ nI b from fun z => (show ¬ 3 ≤ b by omega) ((nI_leI (a := 3) (by omega) (by omega)).mp z)), g1, pb_b_some, show nI b + (1 : Int32) = nI (b + 1) from nI_add b 1]
    exact k1 Kc
theorem m_owedL {μ : pb_M} {v1 v2 v3 : Int32} : ∀ (c b n M : Nat) (r : Nat → Int32) (z : pb_Vg), b + c = 3 → c < n → 100 ≤ M → M + 6 * c ≤ 800000 → pb_MM (pb_sA μ 21 r) 1 z → vOk M z → ∃ r', (∀ Kc, pX7_owedIf_L14 v1 v2 v3 Kc n (nI b) (pb_sA μ 21 r) = Kc (pb_sA μ 21 r')) ∧ pb_MM (pb_sA μ 21 r') 1 (pb_it (fun _ z => vPass z) c b z) ∧ pb_Fr r r' 45
  | _, _, 0, _, _, _, _, hn, _, _, _, _ => by omega
  | 0, b, n + 1, M, r, z, hb, _, hM, hM2, hm, hz => by
    refine ⟨r, fun Kc => ?_, hm, pb_Fr.rf⟩
    rw [pX7_owedIf_L14, if_pos (show (3 : Int32) ≤ nI b from (nI_leI (a := 3) (by omega) (by omega)).mpr (by omega))]
  | c + 1, b, n + 1, M, r, z, hb, hn, hM, hM2, hm, hz => by
    obtain ⟨r1, g1, g2, g3⟩ := m_pass hm (by omega) hz hM (by omega)
    rw [pb_sA_sA] at g1 g2
    rw [pb_sA_eq] at g3
    obtain ⟨r', k1, k2, k3⟩ := m_owedL c (b + 1) n (M + 6) r1 (vPass z) (by omega) (by omega) (by omega) (by omega) g2 (hz.pass hM).1
    refine ⟨r', fun Kc => ?_, k2, g3.tr k3⟩
    rw [pX7_owedIf_L14, if_neg (show ¬ (3 : Int32) ≤ nI b from fun z => (show ¬ 3 ≤ b by omega) ((nI_leI (a := 3) (by omega) (by omega)).mp z)), show (1 : Int32) = nI 1 from rfl, g1, pb_b_some, nI_add]
    exact k1 Kc
end TAKE
