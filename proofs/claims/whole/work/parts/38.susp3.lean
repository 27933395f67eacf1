section SUSP3
variable {K : Nat} {S : pb_S}
def vGood (a : pb_Vg) (x s : Nat) : Bool := vAllS a x s (vP a) 0 && (pb_it (vAnyX a x s) (vP a) 0 0 == x)
theorem m_areSL {μ : pb_M} {a : pb_Vg} (hm : pb_MM μ 0 a) (hv : vS a) (hP : vP a ≤ 4) (hB : vB a ≤ 5) (ho : ∀ b, b < vB a → a (27 + b) < 4) {s x : Nat} (hs : s < 32) (hx : x < 2 ^ vB a) : ∀ (c b n z : Nat), b + c = vP a → c < n → z < 32 → pX7_areSuspects_L5 (nI s) (nI x) n (nI z) (nI b) μ = some (nI (if (vAllS a x s c b && (pb_it (vAnyX a x s) c b z == x)) = true then 1 else 0), μ)
  | _, _, 0, _, _, hn, _ => by omega
  | 0, b, n + 1, z, hb, _, hz => by
    have h32 := pow32 hB
    rw [pX7_areSuspects_L5, hm.2.2.1, if_pos ((nI_leI (by omega) (by omega)).mpr (by omega))]
    show _ = some (nI (if (true && (z == x)) = true then 1 else 0), μ)
    by_cases e : z = x
    · rw [if_pos (by rw [e])]
      simp [e]
      rfl
    · rw [if_neg (fun q => e ((nI_eq (by omega) (by omega)).mp q))]
      simp [e]
      rfl
  | c + 1, b, n + 1, z, hb, hn, hz => by
    have h32 := pow32 hB
    have n1 : nI b + (1 : Int32) = nI (b + 1) := nI_add b 1
    have ht := vTak_32 (a := a) (p := b) hB
    have hle := Nat.and_le_left (n := x) (m := vTak a b)
    have hm0 := m_mayTake hm hv hB ho (show b < 4 by omega) hx
    rw [pX7_areSuspects_L5, hm.2.2.1, if_neg (fun z => (show ¬ vP a ≤ b by omega) ((nI_leI (by omega) (by omega)).mp z)), m_has (by omega) (by omega), pb_b_some]
    show _ = some (nI (if (((!(s.testBit b) || (vTak a b &&& x != 0)) && vAllS a x s c (b + 1)) && (pb_it (vAnyX a x s) c (b + 1) (z ||| (if s.testBit b then x &&& vTak a b else 0)) == x)) = true then 1 else 0), μ)
    by_cases e : s.testBit b = true
    · rw [if_pos e, if_neg (by decide), hm0, pb_b_some]
      by_cases e2 : x &&& vTak a b = 0
      · rw [e2, if_pos (show nI 0 = (0 : Int32) from rfl), Nat.and_comm (vTak a b) x, e2]
        simp [e]
        rfl
      · rw [if_neg (show ¬ nI (x &&& vTak a b) = (0 : Int32) from fun z => e2 ((nI_eq (b := 0) (by omega) (by omega)).mp z)), hm0, pb_b_some, n1, q_or, m_areSL hm hv hP hB ho hs hx c (b + 1) n _ (by omega) (by omega) (Nat.or_lt_two_pow (n := 5) hz (by omega)), Nat.and_comm (vTak a b) x]
        simp [e, e2]
    · rw [if_neg e, if_pos (show nI 0 = (0 : Int32) from rfl), n1, m_areSL hm hv hP hB ho hs hx c (b + 1) n _ (by omega) (by omega) hz]
      simp [e]
theorem m_areS {μ : pb_M} {a : pb_Vg} (hm : pb_MM μ 0 a) (hv : vS a) (hP : vP a ≤ 4) (hB : vB a ≤ 5) (ho : ∀ b, b < vB a → a (27 + b) < 4) {s x : Nat} (hs : s < 32) (hx : x < 2 ^ vB a) : pX7_areSuspects (nI s) (nI x) μ = some (nI (if vGood a x s = true then 1 else 0), μ) :=
  m_areSL hm hv hP hB ho hs hx (vP a) 0 pb_F 0 (by omega) (pb_Fgt (by omega)) (by omega)
def sgF (a : pb_Vg) (x b : Nat) (t : Nat × Nat × Nat) : Nat × Nat × Nat := if vGood a x b = true then (t.1 + 1, t.2.1 &&& b, t.2.2 ||| b) else t
theorem c_susL {μ : pb_M} {a : pb_Vg} (hl : pb_LK μ a) (hP : vP a ≤ 4) (hB : vB a ≤ 5) {x : Nat} (hx : x < 2 ^ vB a) {v2 : Int32} (Kc : Int32 → Int32 → Int32 → pb_M → Option (Int32 × pb_M)) (t : Nat × Nat × Nat) : pX6_suspects_L55 (nI x) v2 (nI (2 ^ vP a - 1)) Kc pb_F (nI t.1) (nI t.2.1) (nI t.2.2) (nI 0) μ = (fun t : Nat × Nat × Nat => Kc (nI t.1) (nI t.2.1) (nI t.2.2) μ) (pb_it (sgF a x) (2 ^ vP a) 0 t) := by
  have h32 := pow32 hB
  have h16 := pow32 (n := vP a) (by omega)
  have hp0 := Nat.two_pow_pos (vP a)
  refine (lp_it (fun n b (t : Nat × Nat × Nat) => pX6_suspects_L55 (nI x) v2 (nI (2 ^ vP a - 1)) Kc n (nI t.1) (nI t.2.1) (nI t.2.2) (nI b) μ) (sgF a x) (fun _ _ => True) (2 ^ vP a) (fun t => Kc (nI t.1) (nI t.2.1) (nI t.2.2) μ) (fun n t _ => ?_) (fun n b t hb _ => ⟨?_, trivial⟩) (2 ^ vP a) 0 pb_F t (by omega) (pb_Fgt (by omega)) trivial).1
  · show pX6_suspects_L55 _ _ _ _ _ _ _ _ _ _ = _
    rw [pX6_suspects_L55, if_pos ((nI_ltI (by omega) (by omega)).mpr (by omega))]
  · show pX6_suspects_L55 _ _ _ _ (n + 1) _ _ _ _ _ = pX6_suspects_L55 _ _ _ _ _ _ _ _ _ _
    have n1 : nI b + (1 : Int32) = nI (b + 1) := nI_add b 1
    have ha : pX2_allTakeSome (nI b) (nI x) μ = some (nI (if vAllS a x b (vP a) 0 = true then 1 else 0), μ) := c_allS hl hP hB (by omega) (by omega) (vP a) 0 pb_F (by omega) (pb_Fgt (by omega))
    have hy := vAnyS_32 (a := a) (s := b) hB (vP a) 0 0 (by omega)
    have hq := sub32 x (by omega) (pb_it (vAnyS a b) (vP a) 0 0) hy
    have hxx := vAnyX_eq a x b (vP a) 0 0
    rw [Nat.and_zero] at hxx
    rw [pX6_suspects_L55, if_neg (fun z => (show ¬ 2 ^ vP a - 1 < b by omega) ((nI_ltI (by omega) (by omega)).mp z)), ha, pb_b_some, n1]
    unfold sgF vGood
    rw [hxx]
    by_cases e : vAllS a x b (vP a) 0 = true
    · rw [if_pos e, if_neg (by decide), c_anyS hl hP (by omega), pb_b_some]
      by_cases e2 : x &&& pb_it (vAnyS a b) (vP a) 0 0 = x
      · rw [if_pos (hq.mpr e2), e2, e, if_pos (by simp), q_and, q_or, show (1 : Int32) = nI 1 from rfl, nI_add]
      · rw [if_neg (fun z => e2 (hq.mp z)), if_neg (by simp [e2])]
    · rw [if_neg e, if_pos (show nI 0 = (0 : Int32) from rfl), if_neg (by simp [e])]
theorem m_susL {μ : pb_M} {a : pb_Vg} (hm : pb_MM μ 0 a) (hv : vS a) (hP : vP a ≤ 4) (hB : vB a ≤ 5) (ho : ∀ b, b < vB a → a (27 + b) < 4) {x : Nat} (hx : x < 2 ^ vB a) {v2 : Int32} (Kc : Int32 → Int32 → Int32 → pb_M → Option (Int32 × pb_M)) (t : Nat × Nat × Nat) : pX7_suspects_L51 (nI x) v2 Kc pb_F (nI t.1) (nI t.2.1) (nI t.2.2) (nI 0) μ = (fun t : Nat × Nat × Nat => Kc (nI t.1) (nI t.2.1) (nI t.2.2) μ) (pb_it (sgF a x) (2 ^ vP a) 0 t) := by
  have h16 := pow32 (n := vP a) (by omega)
  refine (lp_it (fun n b (t : Nat × Nat × Nat) => pX7_suspects_L51 (nI x) v2 Kc n (nI t.1) (nI t.2.1) (nI t.2.2) (nI b) μ) (sgF a x) (fun _ _ => True) (2 ^ vP a) (fun t => Kc (nI t.1) (nI t.2.1) (nI t.2.2) μ) (fun n t _ => ?_) (fun n b t hb _ => ⟨?_, trivial⟩) (2 ^ vP a) 0 pb_F t (by omega) (pb_Fgt (by omega)) trivial).1
  · show pX7_suspects_L51 _ _ _ _ _ _ _ _ _ = _
    rw [pX7_suspects_L51, hm.2.2.1, q_shl (by omega), if_pos ((nI_leI (by omega) (by omega)).mpr (Nat.le_refl _))]
  · show pX7_suspects_L51 _ _ _ (n + 1) _ _ _ _ _ = pX7_suspects_L51 _ _ _ _ _ _ _ _ _
    have n1 : nI b + (1 : Int32) = nI (b + 1) := nI_add b 1
    rw [pX7_suspects_L51, hm.2.2.1, q_shl (by omega), if_neg (fun z => (show ¬ 2 ^ vP a ≤ b by omega) ((nI_leI (by omega) (by omega)).mp z)), m_areS hm hv hP hB ho (by omega) hx, pb_b_some, n1]
    unfold sgF
    by_cases e : vGood a x b = true
    · rw [if_pos e, if_neg (by decide), if_pos e, q_and, q_or, show (1 : Int32) = nI 1 from rfl, nI_add]
    · rw [if_neg e, if_pos (show nI 0 = (0 : Int32) from rfl), if_neg e]
theorem in02 {x : Int32} : ((0 : Int64) ≤ x.toInt64 ∧ x.toInt64 ≤ (2 : Int64)) = (inR x 3 = true) := by
  rw [l_0, show (2 : Int64) = (nI 3 - (1 : Int32)).toInt64 from by decide]
  simp only [l_le, le_pred (show 3 < 1000000 by omega)]
  unfold inR
  simp
theorem inR_lo {x : Int32} {n : Nat} (h : inR x n = true) (hn : n < 2000000000) {m : Nat} (hm : m + 1 = n) : ¬ x < 0 ∧ x ≤ nI m := by
  obtain ⟨k, hk, rfl⟩ := inR_of h hn
  exact ⟨fun z => (show ¬ k < 0 by omega) ((nI_ltI (b := 0) (by omega) (by omega)).mp z), (nI_leI (by omega) (by omega)).mpr (by omega)⟩
theorem inR_out {x : Int32} {m : Nat} (h : ¬ inR x (m + 1) = true) (hm : m < 100000) : x < 0 ∨ (¬ x < 0 ∧ ¬ x ≤ nI m) := by
  by_cases h0 : x < 0
  · exact Or.inl h0
  · refine Or.inr ⟨h0, fun q => h ?_⟩
    unfold inR
    simp only [Bool.and_eq_true, decide_eq_true_eq]
    refine ⟨Int32.not_lt.mp h0, ?_⟩
    rw [← le_pred (n := m + 1) (by omega), show nI (m + 1) - (1 : Int32) = nI m from pk_sub (show 1 ≤ m + 1 by omega)]
    exact q
def susA (v : Int32) (m : Int32) (t : Nat × Nat × Nat) : Int32 := if v = (0 : Int32) then nI t.1 else if nI t.1 = (0 : Int32) then (-9 : Int32) else if v = (1 : Int32) then nI t.2.1 else m &&& (nI t.2.2 ^^^ (-1 : Int32))
theorem op_suspects (hA : InvA K S) (hK : K + 1 ≤ 64) (u v : Int32) : pOp K S (pX6_suspects u v) (pX7_suspects u v) := by
  have hP := hA.1.1.1.1
  have hB := hA.1.1.1.2
  have hs := hA.s
  have ho : ∀ b, b < vB S.1 → S.1 (27 + b) < 4 := fun b hb => by have := (hA.1.1.2.1 b hb).1; omega
  have h32 := pow32 hB
  have h16 := pow32 (n := vP S.1) (by omega)
  have e1 : nI (2 ^ vP S.1) - (1 : Int32) = nI (2 ^ vP S.1 - 1) := pk_sub (Nat.two_pow_pos _)
  by_cases h1 : inR u (2 ^ vB S.1) = true
  · by_cases h2 : inR v 3 = true
    · obtain ⟨x, hx, rfl⟩ := inR_of h1 (by omega)
      obtain ⟨hv0, hv2⟩ := inR_lo h2 (by omega) (m := 2) (by omega)
      refine pOp.read hA hK (susA v (nI (2 ^ vP S.1 - 1)) (pb_it (sgF S.1 x) (2 ^ vP S.1) 0 (0, 2 ^ vP S.1 - 1, 0))) (pC.read fun μ hC => ?_) (pM.same fun μ hM => ?_)
      · have hc : pb_CR (μ.1 (4 + 1)) 0 S.1 := hC.1
        obtain ⟨μ1, g1, g2, g3, g4, g5⟩ := c_look hC.1 hs hP hB ho
        refine ⟨μ1, ?_, g4, g5⟩
        have hc1 : pb_CR (μ1.1 (4 + 1)) 0 S.1 := by rw [show μ1.1 (4 + 1) = μ.1 5 from g3]; exact hC.1
        unfold pX6_suspects
        rw [c_areB hc hB, if_pos h1, pb_b_some, if_neg (by decide), if_neg hv0, if_pos (show v ≤ (2 : Int32) from hv2), g1, pb_b_some, c_people hc1, pb_b_some, q_shl (by omega), e1]
        refine (c_susL g2 hP hB hx _ (0, 2 ^ vP S.1 - 1, 0)).trans ?_
        unfold susA
        simp only [apply_ite some, apply_ite (fun q => (q, μ1)), ite_some]
      · unfold pX7_suspects
        rw [m_areB hM.1.2.2.2 hB, if_pos h1, pb_b_some, if_neg (by decide), m_in]
        simp only [in02]
        rw [if_pos h2, pb_b_some, if_neg (by decide), hM.1.2.2.1, q_shl (by omega), e1]
        refine (m_susL hM.1 hs hP hB ho hx _ (0, 2 ^ vP S.1 - 1, 0)).trans ?_
        unfold susA
        simp only [hM.1.2.2.1, q_shl (show vP S.1 < 31 by omega), e1, ite_some]
    · refine pOp.read hA hK (-2) (pC.same fun μ hC => ?_) (pM.same fun μ hM => ?_)
      · have hc : pb_CR (μ.1 (4 + 1)) 0 S.1 := hC.1
        unfold pX6_suspects
        rw [c_areB hc hB, if_pos h1, pb_b_some, if_neg (by decide)]
        rcases inR_out (m := 2) h2 (by omega) with q | ⟨q, q'⟩
        · rw [if_pos q]
        · rw [if_neg q, if_neg (show ¬ v ≤ (2 : Int32) from q')]
      · unfold pX7_suspects
        rw [m_areB hM.1.2.2.2 hB, if_pos h1, pb_b_some, if_neg (by decide), m_in]
        simp only [in02]
        rw [if_neg h2, pb_b_some, if_pos (show nI 0 = (0 : Int32) from rfl)]
  · refine pOp.read hA hK (-2) (pC.same fun μ hC => ?_) (pM.same fun μ hM => ?_)
    · have hc : pb_CR (μ.1 (4 + 1)) 0 S.1 := hC.1
      unfold pX6_suspects
      rw [c_areB hc hB, if_neg h1, pb_b_some, if_pos (show nI 0 = (0 : Int32) from rfl)]
    · unfold pX7_suspects
      rw [m_areB hM.1.2.2.2 hB, if_neg h1, pb_b_some, if_pos (show nI 0 = (0 : Int32) from rfl)]
end SUSP3
