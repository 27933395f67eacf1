section LAW
variable {K : Nat} {S : pb_S}
theorem law_step {α β : Type} [DecidableEq α] {p q : pb_M → Option (α × pb_M)} {G : pb_M → Option (β × pb_M)} {μ : pb_M} (hop : pOp K S p q) (hC : InvC μ S) (hM : InvM μ S) (hrec : ∀ S' μ', InvA (K + 1) S' → InvC μ' S' → InvM μ' S' → ∃ r μ'', G μ' = some (r, μ'')) : ∃ r μ', pb_b (p μ) (fun b μ1 => pb_b (q μ1) (fun b' μ2 => if b = b' then G μ2 else none)) = some (r, μ') := by
  obtain ⟨r, μ1, μ2, S', h1, h2, h3, h4, h5⟩ := hop.both hC hM
  obtain ⟨r', μ3, h6⟩ := hrec S' μ2 h3 h4 h5
  refine ⟨r', μ3, ?_⟩
  rw [h1, pb_b_some, h2, pb_b_some, if_pos rfl, h6]
theorem law_stepL {β : Type} {p q : pb_M → Option (Int64 × pb_M)} {G : pb_M → Option (β × pb_M)} {μ : pb_M} (hop : pOp K S p q) (hC : InvC μ S) (hM : InvM μ S) (hrec : ∀ S' μ', InvA (K + 1) S' → InvC μ' S' → InvM μ' S' → ∃ r μ'', G μ' = some (r, μ'')) : ∃ r μ', pb_b (p μ) (fun b μ1 => pb_b (q μ1) (fun b' μ2 => if (lg_cmp b b') = (0 : Int32) then G μ2 else none)) = some (r, μ') := by
  obtain ⟨r, μ1, μ2, S', h1, h2, h3, h4, h5⟩ := hop.both hC hM
  obtain ⟨r', μ3, h6⟩ := hrec S' μ2 h3 h4 h5
  refine ⟨r', μ3, ?_⟩
  rw [h1, pb_b_some, h2, pb_b_some, if_pos ((lg_cmp_eq _ _).mpr rfl), h6]
set_option maxHeartbeats 4000000 in
set_option maxRecDepth 100000 in
theorem law_loop {xs : Nat → Int32} {N : Nat} (hN : N ≤ 256) : ∀ (c n K : Nat) (S : pb_S) (μ : pb_M), K + c = 65 → c < n → InvA K S → InvC μ S → InvM μ S → ∃ r μ', pL_law_L18 xs N n (nI (4 * K)) μ = some (r, μ')
  | _, 0, _, _, _, _, hn, _, _, _ => by omega
  | 0, n + 1, K, S, μ, hc, _, hA, _, _ => by
    have := hA.1.2
    omega
  | c + 1, n + 1, K, S, μ, hc, hn, hA, hC, hM => by
    have eN : (Int32.ofNat N - (4 : Int32)).toInt = (N : Int) - 4 := pk_sub_toInt (a := N) (b := 4) (by omega) (by omega)
    have hK0 := hA.1.2
    rw [pL_law_L18]
    by_cases hx : (Int32.ofNat N - (4 : Int32)) < nI (4 * K)
    · rw [if_pos hx]
      exact ⟨_, _, rfl⟩
    · rw [if_neg hx]
      have hle : 4 * K + 4 ≤ N := by
        rw [Int32.lt_iff_toInt_lt, eN, nI_toInt (by omega)] at hx
        omega
      have hK : K + 1 ≤ 64 := by omega
      have hrec : ∀ S' μ', InvA (K + 1) S' → InvC μ' S' → InvM μ' S' → ∃ r μ'', pL_law_L18 xs N n (nI (4 * K) + (4 : Int32)) μ' = some (r, μ'') := fun S' μ' h1 h2 h3 => by
        rw [show nI (4 * K) + (4 : Int32) = nI (4 * (K + 1)) from by
          rw [show nI (4 * K) + (4 : Int32) = nI (4 * K + 4) from nI_add _ 4]
          exact congrArg nI (by omega)]
        exact law_loop hN c n (K + 1) S' μ' (by omega) (by omega) h1 h2 h3
      have i0 : pb_in (nI (4 * K)) N = true := q_in (by omega) (by omega)
      have i1 : pb_in (nI (4 * K) + (1 : Int32)) N = true := by
        rw [show nI (4 * K) + (1 : Int32) = nI (4 * K + 1) from nI_add _ 1]
        exact q_in (by omega) (by omega)
      have i2 : pb_in (nI (4 * K) + (2 : Int32)) N = true := by
        rw [show nI (4 * K) + (2 : Int32) = nI (4 * K + 2) from nI_add _ 2]
        exact q_in (by omega) (by omega)
      have i3 : pb_in (nI (4 * K) + (3 : Int32)) N = true := by
        rw [show nI (4 * K) + (3 : Int32) = nI (4 * K + 3) from nI_add _ 3]
        exact q_in (by omega) (by omega)
      rw [if_pos i0]
      simp only [i1, i2, i3, if_true]
      generalize (xs (nI (4 * K)).toNatClampNeg) &&& (31 : Int32) = o
      by_cases e0 : o = (0 : Int32)
      · rw [if_pos e0]
        exact law_step (op_write hA hK _) hC hM hrec
      rw [if_neg e0]
      by_cases e1 : o = (1 : Int32)
      · rw [if_pos e1]
        exact law_step (op_wipe hA hK) hC hM hrec
      rw [if_neg e1]
      by_cases e2 : o = (2 : Int32)
      · rw [if_pos e2]
        exact law_step (op_fault hA hK) hC hM hrec
      rw [if_neg e2]
      by_cases e3 : o = (3 : Int32)
      · rw [if_pos e3]
        exact law_step (op_village hA hK) hC hM hrec
      rw [if_neg e3]
      by_cases e4 : o = (4 : Int32)
      · rw [if_pos e4]
        exact law_step (op_person hA hK _ _) hC hM hrec
      rw [if_neg e4]
      by_cases e5 : o = (5 : Int32)
      · rw [if_pos e5]
        exact law_step (op_beast hA hK _ _) hC hM hrec
      rw [if_neg e5]
      by_cases e6 : o = (6 : Int32)
      · rw [if_pos e6]
        exact law_step (op_owes hA hK _ _) hC hM hrec
      rw [if_neg e6]
      by_cases e7 : o = (7 : Int32)
      · rw [if_pos e7]
        exact law_step (op_drive hA hK _ _) hC hM hrec
      rw [if_neg e7]
      by_cases e8 : o = (8 : Int32)
      · rw [if_pos e8]
        exact law_step (op_day hA hK) hC hM hrec
      rw [if_neg e8]
      by_cases e9 : o = (9 : Int32)
      · rw [if_pos e9]
        exact law_step (op_pay hA hK _ _ _) hC hM hrec
      rw [if_neg e9]
      by_cases e10 : o = (10 : Int32)
      · rw [if_pos e10]
        exact law_step (op_breakOut hA hK _) hC hM hrec
      rw [if_neg e10]
      by_cases e11 : o = (11 : Int32)
      · rw [if_pos e11]
        exact law_step (op_forfeit hA hK _) hC hM hrec
      rw [if_neg e11]
      by_cases e12 : o = (12 : Int32)
      · rw [if_pos e12]
        exact law_step (op_undo hA hK) hC hM hrec
      rw [if_neg e12]
      by_cases e13 : o = (13 : Int32)
      · rw [if_pos e13]
        exact law_step (op_clause hA hK _ _) hC hM hrec
      rw [if_neg e13]
      by_cases e14 : o = (14 : Int32)
      · rw [if_pos e14]
        exact law_step (op_worth hA hK _ _) hC hM hrec
      rw [if_neg e14]
      by_cases e15 : o = (15 : Int32)
      · rw [if_pos e15]
        by_cases b : xs (nI (4 * K) + (3 : Int32)).toNatClampNeg = (0 : Int32)
        · rw [if_pos b]
          unfold pL_law_J567
          simp only [i1, i2, i3, if_true, b]
          exact law_step (op_take hA hK _ _ _) hC hM hrec
        · rw [if_neg b]
          unfold pL_law_J567
          simp only [i1, i2, i3, if_true, b, if_false]
          exact law_step (op_take hA hK _ _ _) hC hM hrec
      rw [if_neg e15]
      by_cases e16 : o = (16 : Int32)
      · rw [if_pos e16]
        by_cases b : xs (nI (4 * K) + (1 : Int32)).toNatClampNeg = (0 : Int32)
        · rw [if_pos b]
          unfold pL_law_J616
          simp only [i1, i2, i3, if_true, b]
          exact law_step (op_each hA hK _) hC hM hrec
        · rw [if_neg b]
          unfold pL_law_J616
          simp only [i1, i2, i3, if_true, b, if_false]
          exact law_step (op_each hA hK _) hC hM hrec
      rw [if_neg e16]
      by_cases e17 : o = (17 : Int32)
      · rw [if_pos e17]
        by_cases b : xs (nI (4 * K) + (2 : Int32)).toNatClampNeg = (0 : Int32)
        · rw [if_pos b]
          unfold pL_law_J660
          simp only [i1, i2, i3, if_true, b]
          exact law_step (op_share hA hK _ _) hC hM hrec
        · rw [if_neg b]
          unfold pL_law_J660
          simp only [i1, i2, i3, if_true, b, if_false]
          exact law_step (op_share hA hK _ _) hC hM hrec
      rw [if_neg e17]
      by_cases e18 : o = (18 : Int32)
      · rw [if_pos e18]
        exact law_step (op_ring hA hK _) hC hM hrec
      rw [if_neg e18]
      by_cases e19 : o = (19 : Int32)
      · rw [if_pos e19]
        exact law_step (op_close hA hK _) hC hM hrec
      rw [if_neg e19]
      by_cases e20 : o = (20 : Int32)
      · rw [if_pos e20]
        exact law_step (op_judge hA hK _ _) hC hM hrec
      rw [if_neg e20]
      by_cases e21 : o = (21 : Int32)
      · rw [if_pos e21]
        exact law_step (op_who hA hK _) hC hM hrec
      rw [if_neg e21]
      by_cases e22 : o = (22 : Int32)
      · rw [if_pos e22]
        exact law_step (op_suspects hA hK _ _) hC hM hrec
      rw [if_neg e22]
      by_cases e23 : o = (23 : Int32)
      · rw [if_pos e23]
        exact law_step (op_rests hA hK _ _ _) hC hM hrec
      rw [if_neg e23]
      by_cases e24 : o = (24 : Int32)
      · rw [if_pos e24]
        by_cases b : xs (nI (4 * K) + (3 : Int32)).toNatClampNeg = (0 : Int32)
        · rw [if_pos b]
          unfold pL_law_J922
          simp only [i1, i2, i3, if_true, b]
          exact law_step (op_chance hA hK _ _ _) hC hM hrec
        · rw [if_neg b]
          unfold pL_law_J922
          simp only [i1, i2, i3, if_true, b, if_false]
          exact law_step (op_chance hA hK _ _ _) hC hM hrec
      rw [if_neg e24]
      by_cases e25 : o = (25 : Int32)
      · rw [if_pos e25]
        exact law_stepL (op_seed hA hK _) hC hM hrec
      rw [if_neg e25]
      by_cases e26 : o = (26 : Int32)
      · rw [if_pos e26]
        exact law_step (op_villages hA hK _) hC hM hrec
      rw [if_neg e26]
      by_cases e27 : o = (27 : Int32)
      · rw [if_pos e27]
        exact law_step (op_keep hA hK _) hC hM hrec
      rw [if_neg e27]
      by_cases e28 : o = (28 : Int32)
      · rw [if_pos e28]
        exact law_step (op_again hA hK _) hC hM hrec
      rw [if_neg e28]
      by_cases e29 : o = (29 : Int32)
      · rw [if_pos e29]
        exact law_step (op_count hA hK _) hC hM hrec
      rw [if_neg e29]
      exact hrec S μ (hA.mono hK) hC hM
theorem pb_S0 : ∃ S, InvA 0 S ∧ InvC pb_m0 S ∧ InvM pb_m0 S := by
  refine ⟨(z0, 0, (fun _ => 0), 0, (fun _ => z0), (fun _ => none), 0), ⟨⟨z0_PI.1, by omega⟩, ⟨by show 0 ≤ 56; omega, fun j hj => absurd (show j < 0 from hj) (Nat.not_lt_zero _)⟩, ⟨by show 0 ≤ 14; omega, fun j hj => absurd (show j < 0 from hj) (Nat.not_lt_zero _)⟩, fun s _ v hv => by cases hv⟩, ⟨fun j hj => ?_, ⟨rfl, fun j hj => absurd (show j < 0 from hj) (Nat.not_lt_zero _)⟩, ⟨0, by omega, rfl, rfl, fun j hj => absurd (show j < 0 from hj) (Nat.not_lt_zero _)⟩, ⟨rfl, fun s _ v hv => by cases hv⟩, rfl⟩, ⟨⟨fun j hj => ?_, fun b hb => absurd (show b < 0 from hb) (Nat.not_lt_zero _), rfl, rfl⟩, ⟨rfl, fun j hj => absurd (show j < 0 from hj) (Nat.not_lt_zero _)⟩, ⟨0, by omega, rfl, rfl, fun j hj => absurd (show j < 0 from hj) (Nat.not_lt_zero _)⟩, fun s _ => ⟨rfl, fun v hv => by cases hv⟩, rfl⟩⟩
  · show (0 : Int32) = pb_e j (z0 j)
    unfold z0 pb_e
    by_cases q : 42 ≤ j ∧ j < 47
    · rw [if_pos q, if_pos q]
      rfl
    · rw [if_neg q, if_neg q]
      rfl
  · show (0 : Int32) = pb_e (pb_pi j) (z0 (pb_pi j))
    unfold z0 pb_e
    by_cases q : 42 ≤ pb_pi j ∧ pb_pi j < 47
    · rw [if_pos q, if_pos q]
      rfl
    · rw [if_neg q, if_neg q]
      rfl
theorem law_pure (N : Nat) (xs : Nat → Int32) (hN : N ≤ 256) : ∃ r μ', pL_law_L18 xs N pb_F 0 pb_m0 = some (r, μ') := by
  obtain ⟨S, h1, h2, h3⟩ := pb_S0
  exact law_loop hN 65 pb_F 0 S pb_m0 (by omega) (pb_Fgt (by omega)) h1 h2 h3
end LAW
