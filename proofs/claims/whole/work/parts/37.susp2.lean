section SUSP2
variable {K : Nat} {S : pb_S}
def vAllS (a : pb_Vg) (x s : Nat) : Nat → Nat → Bool
  | 0, _ => true
  | c + 1, b => (!(s.testBit b) || (vTak a b &&& x != 0)) && vAllS a x s c (b + 1)
def vAnyS (a : pb_Vg) (s b z : Nat) : Nat := z ||| (if s.testBit b then vTak a b else 0)
def vAnyX (a : pb_Vg) (x s b z : Nat) : Nat := z ||| (if s.testBit b then x &&& vTak a b else 0)
theorem vAnyX_eq (a : pb_Vg) (x s : Nat) : ∀ c b z, pb_it (vAnyX a x s) c b (x &&& z) = x &&& pb_it (vAnyS a s) c b z
  | 0, _, _ => rfl
  | c + 1, b, z => by
    show pb_it (vAnyX a x s) c (b + 1) (vAnyX a x s b (x &&& z)) = x &&& pb_it (vAnyS a s) c (b + 1) (vAnyS a s b z)
    rw [← vAnyX_eq a x s c (b + 1)]
    congr 1
    unfold vAnyX vAnyS
    rw [Nat.and_or_distrib_left]
    split
    · rfl
    · rw [Nat.and_zero]
theorem vAnyS_32 {a : pb_Vg} {s : Nat} (hB : vB a ≤ 5) : ∀ c b z, z < 32 → pb_it (vAnyS a s) c b z < 32
  | 0, _, _, h => h
  | c + 1, b, z, h => by
    refine vAnyS_32 hB c (b + 1) _ ?_
    unfold vAnyS
    exact Nat.or_lt_two_pow (n := 5) h (by
      split
      · exact vTak_32 hB
      · decide)
theorem c_allS {μ : pb_M} {a : pb_Vg} (hl : pb_LK μ a) (hP : vP a ≤ 4) (hB : vB a ≤ 5) {s x : Nat} (hs : s < 32) (hx : x < 32) : ∀ (c b n : Nat), b + c = vP a → c < n → pX2_allTakeSome_L2 (nI s) (nI x) n (nI b) μ = some (nI (if vAllS a x s c b = true then 1 else 0), μ)
  | _, _, 0, _, hn => by omega
  | 0, b, n + 1, hb, _ => by
    rw [pX2_allTakeSome_L2, hl.1, if_pos ((nI_leI (by omega) (by omega)).mpr (by omega))]
    rfl
  | c + 1, b, n + 1, hb, hn => by
    have k1 := c_allS hl hP hB hs hx c (b + 1) n (by omega) (by omega)
    have hn0 : ¬ nI (vP a) ≤ nI b := fun z => (show ¬ vP a ≤ b by omega) ((nI_leI (by omega) (by omega)).mp z)
    have n1 : nI b + (1 : Int32) = nI (b + 1) := nI_add b 1
    have ht := vTak_32 (a := a) (p := b) hB
    have hle := Nat.and_le_left (n := vTak a b) (m := x)
    rw [pX2_allTakeSome_L2, hl.1, if_neg hn0, c_has (by omega) (by omega), pb_b_some]
    unfold vAllS
    by_cases e : s.testBit b = true
    · rw [if_pos e, if_neg (by decide), if_pos (q_in (by omega) (by omega)), q_cl (by omega), hl.2 b (by omega), q_and]
      by_cases e2 : vTak a b &&& x = 0
      · rw [e2, if_pos (show nI 0 = (0 : Int32) from rfl)]
        simp [e]
        rfl
      · rw [if_neg (show ¬ nI (vTak a b &&& x) = (0 : Int32) from fun z => e2 ((nI_eq (b := 0) (by omega) (by omega)).mp z)), n1, k1]
        simp [e, e2]
    · rw [if_neg e, if_pos (show nI 0 = (0 : Int32) from rfl), n1, k1]
      simp [e]
theorem c_anyS {μ : pb_M} {a : pb_Vg} (hl : pb_LK μ a) (hP : vP a ≤ 4) {s : Nat} (hs : s < 32) : pX2_takableByAny (nI s) μ = some (nI (pb_it (vAnyS a s) (vP a) 0 0), μ) := by
  unfold pX2_takableByAny
  exact (lp_it (fun n b z => pX2_takableByAny_L4 (nI s) n (nI z) (nI b) μ) (vAnyS a s) (fun _ _ => True) (vP a) (fun z => some (nI z, μ)) (fun n z _ => by
    rw [pX2_takableByAny_L4, hl.1, if_pos ((nI_leI (by omega) (by omega)).mpr (Nat.le_refl _))]) (fun n b z hb _ => ⟨by
    rw [pX2_takableByAny_L4, hl.1, if_neg (fun z => (show ¬ vP a ≤ b by omega) ((nI_leI (by omega) (by omega)).mp z)), c_has (by omega) (by omega), pb_b_some, show nI b + (1 : Int32) = nI (b + 1) from nI_add b 1]
    unfold vAnyS
    by_cases e : s.testBit b = true
    · rw [if_pos e, if_neg (by decide), if_pos (q_in (by omega) (by omega)), q_cl (by omega), hl.2 b hb, q_or, if_pos e]
    · rw [if_neg e, if_pos (show nI 0 = (0 : Int32) from rfl), show (0 : Int32) = nI 0 from rfl, q_or, if_neg e], trivial⟩) (vP a) 0 pb_F 0 (by omega) (pb_Fgt (by omega)) trivial).1
end SUSP2
