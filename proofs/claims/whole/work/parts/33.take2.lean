section TAKE2
variable {K : Nat} {S : pb_S}
def tkE1 : Option (Nat × Nat) → Int32
  | none => -9
  | some z => nI z.1
def tkE2 : Option (Nat × Nat) → Int32
  | none => -9
  | some z => nI z.2
def tkN (a : pb_Vg) (p o b : Nat) : Option (Nat × Nat) → Option (Nat × Nat)
  | none => some (b, vOwed a p o b)
  | some z => if vOwed a p o b < z.2 ∨ (vOwed a p o b = z.2 ∧ a (32 + b) < a (32 + z.1)) then some (b, vOwed a p o b) else some z
def tkB (a : pb_Vg) (p o b : Nat) (z : Option (Nat × Nat)) : Option (Nat × Nat) := if vClause a p b = 0 ∧ a (27 + b) = o then tkN a p o b z else z
def tkOk (a : pb_Vg) (z : Option (Nat × Nat)) : Prop := ∀ y, z = some y → y.1 < vB a ∧ y.2 ≤ 99
theorem vOwed_le {M : Nat} {a : pb_Vg} (hz : vOk M a) {p o b : Nat} (hp : p < vP a) (ho : o < vP a) : vOwed a p o b ≤ 99 := by
  have hP := hz.1.1
  have := (hz.2.2.1 o p (by omega) (by omega)).1
  unfold vOwed
  omega
theorem tkOk.B {M : Nat} {a : pb_Vg} (hz : vOk M a) {p o b : Nat} (hp : p < vP a) (ho : o < vP a) (hb : b < vB a) {z : Option (Nat × Nat)} (h : tkOk a z) : tkOk a (tkB a p o b z) := by
  have hv := vOwed_le hz hp ho (b := b)
  unfold tkB
  split
  · intro y hy
    cases z with
    | none => cases hy; exact ⟨hb, hv⟩
    | some w =>
      have hw := h w rfl
      unfold tkN at hy
      simp only at hy
      split at hy
      · cases hy; exact ⟨hb, hv⟩
      · cases hy; exact hw
  · exact h
theorem c_takeJ {μ : pb_M} {v1 v2 v3 v4 v5 v6 v7 v8 : Int32} {F : Int32 → Int32 → Int32 → pb_M → Option (Int32 × pb_M)} : pX6_take_J139 v1 v2 v3 v4 F v5 v6 v7 v8 μ = F v7 v8 (v7 + (1 : Int32)) μ := by
  unfold pX6_take_J139
  rw [if_neg (by decide)]
theorem c_takeL {μ : pb_M} {a : pb_Vg} {M : Nat} (hc : pb_CR (μ.1 5) 0 a) (hz : vOk M a) (hM : 100 ≤ M) (hM2 : M ≤ 700000) {p o x : Nat} {v : Int32} (hp : p < vP a) (ho : o < vP a) (hpo : p ≠ o) (hx : x < 32) (hxb : ∀ b, b < vB a → (x.testBit b = true ↔ vClause a p b = 0 ∧ a (27 + b) = o)) (hcl : ∀ b, b < vB a → vClause a p b = 0 → a (32 + b) ≠ 0) : ∀ (c b n : Nat) (f : Nat → Int32) (z : Option (Nat × Nat)), b + c = vB a → c < n → tkOk a z → ∃ f', pX6_take_L62 (nI p) (nI o) v (nI x) n (tkE1 z) (tkE2 z) (nI b) (pb_sA μ (6 + 1) f) = some (if v = 0 then tkE1 (pb_it (tkB a p o) c b z) else tkE2 (pb_it (tkB a p o) c b z), pb_sA μ (6 + 1) f')
  | _, _, 0, _, _, _, hn, _ => by omega
  | 0, b, n + 1, f, z, hb, _, hk => by
    have hB := hz.1.2
    have hc5 : pb_CR ((pb_sA μ (6 + 1) f).1 (4 + 1)) 0 a := by rw [pb_sA_ne (by decide)]; exact hc
    refine ⟨f, ?_⟩
    rw [pX6_take_L62, c_beasts hc5, pb_b_some, if_pos ((nI_leI (by omega) (by omega)).mpr (by omega))]
    by_cases e : v = 0
    · rw [if_pos e, if_pos e]
      rfl
    · rw [if_neg e, if_neg e]
      rfl
  | c + 1, b, n + 1, f, z, hb, hn, hk => by
    have hB := hz.1.2
    have hP := hz.1.1
    have hs := hz.s (by omega)
    have hc5 : pb_CR ((pb_sA μ (6 + 1) f).1 (4 + 1)) 0 a := by rw [pb_sA_ne (by decide)]; exact hc
    have hbl : b < vB a := by omega
    have hnb : ¬ nI (vB a) ≤ nI b := fun z => (show ¬ vB a ≤ b by omega) ((nI_leI (by omega) (by omega)).mp z)
    show ∃ f', _ = some (if v = 0 then tkE1 (pb_it (tkB a p o) c (b + 1) (tkB a p o b z)) else tkE2 (pb_it (tkB a p o) c (b + 1) (tkB a p o b z)), pb_sA μ (6 + 1) f')
    have hk2 := hk.B hz hp ho hbl
    by_cases e : x.testBit b = true
    · have e2 := (hxb b hbl).mp e
      obtain ⟨f1, g1⟩ := c_owed (μ := pb_sA μ (6 + 1) f) hc5 hz hM hM2 hp ho hpo hbl (hcl b hbl e2.1) e2.2
      rw [pb_sA_sA] at g1
      obtain ⟨f2, k1⟩ := c_takeL hc hz hM hM2 hp ho hpo hx hxb hcl c (b + 1) n f1 (tkB a p o b z) (by omega) (by omega) hk2 (v := v)
      refine ⟨f2, Eq.trans ?_ k1⟩
      have hc6 : pb_CR ((pb_sA μ (6 + 1) f1).1 (4 + 1)) 0 a := by rw [pb_sA_ne (by decide)]; exact hc
      have hv := vOwed_le hz hp ho (b := b)
      have n1 : nI b + (1 : Int32) = nI (b + 1) := nI_add b 1
      rw [pX6_take_L62, c_beasts hc5, pb_b_some, if_neg hnb, c_has (by omega) (by omega), if_pos e, pb_b_some, if_neg (by decide), g1, pb_b_some, c_takeJ]
      unfold tkB
      rw [if_pos e2]
      cases z with
      | none =>
        rw [if_pos (show tkE1 none = (-9 : Int32) from rfl), n1]
        rfl
      | some y =>
        have hy := hk y rfl
        have hsb := hs (32 + b) (by omega)
        have hsy := hs (32 + y.1) (by omega)
        rw [show tkE1 (some y) = nI y.1 from rfl, show tkE2 (some y) = nI y.2 from rfl, if_neg (show ¬ nI y.1 = (-9 : Int32) from nI_ne9 (by omega)), n1]
        by_cases q1 : vOwed a p o b < y.2
        · rw [if_pos ((nI_ltI (by omega) (by omega)).mpr q1), show tkN a p o b (some y) = some (b, vOwed a p o b) from if_pos (Or.inl q1)]
          rfl
        · rw [if_neg (fun z => q1 ((nI_ltI (by omega) (by omega)).mp z))]
          by_cases q2 : vOwed a p o b = y.2
          · rw [if_pos (by rw [q2]), c_wor hc6 (by omega), pb_b_some, c_wor hc6 (by omega), pb_b_some]
            by_cases q3 : a (32 + y.1) ≤ a (32 + b)
            · rw [if_pos ((nI_leI (by omega) (by omega)).mpr q3), if_pos rfl, show tkN a p o b (some y) = some y from if_neg (by omega)]
              rfl
            · rw [if_neg (fun z => q3 ((nI_leI (by omega) (by omega)).mp z)), c_takeJ, n1, show tkN a p o b (some y) = some (b, vOwed a p o b) from if_pos (by omega)]
              rfl
          · rw [if_neg (fun z => q2 ((nI_eq (by omega) (by omega)).mp z)), if_pos rfl, show tkN a p o b (some y) = some y from if_neg (by omega)]
            rfl
    · have e2 : ¬ (vClause a p b = 0 ∧ a (27 + b) = o) := fun q => e ((hxb b hbl).mpr q)
      have e3 : tkB a p o b z = z := by unfold tkB; rw [if_neg e2]
      obtain ⟨f2, k1⟩ := c_takeL hc hz hM hM2 hp ho hpo hx hxb hcl c (b + 1) n f z (by omega) (by omega) hk (v := v)
      refine ⟨f2, ?_⟩
      rw [e3, pX6_take_L62, c_beasts hc5, pb_b_some, if_neg hnb, c_has (by omega) (by omega), if_neg e, pb_b_some, if_pos (show nI 0 = (0 : Int32) from rfl), show nI b + (1 : Int32) = nI (b + 1) from nI_add b 1]
      exact k1
end TAKE2
