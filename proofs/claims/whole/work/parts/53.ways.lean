section WAYS
variable {T : Nat → Nat → Bool} {B : Nat}
def fF (met : Nat) : Nat → Bool := fun b => !met.testBit b
theorem fF_or (met b : Nat) : fF (met ||| 2 ^ b) = rm (fF met) b := by
  funext c
  unfold fF rm
  rw [Nat.testBit_or, Nat.testBit_two_pow]
  by_cases e : c = b
  · subst e
    simp
  · have e2 : ¬ b = c := fun q => e q.symm
    simp [e, e2]
theorem pc_or {met b : Nat} (hb : b < 5) (h : met.testBit b = false) : pb_pc (met ||| 2 ^ b) = pb_pc met + 1 := by
  unfold pb_pc
  refine sum_one (e := b) (fun e _ hne => ?_) hb ?_
  · rw [Nat.testBit_or, Nat.testBit_two_pow]
    have e2 : ¬ b = e := fun q => hne q.symm
    simp [e2]
  · rw [Nat.testBit_or, Nat.testBit_two_pow, h]
    simp
def gV (T : Nat → Nat → Bool) (β : Nat) : Nat → Nat → Nat → Nat → Option Nat
  | 0, _, met, _ => some met
  | c + 1, i, met, n => if n / β ^ c % β = 0 then gV T β c (i + 1) met n else if (T i (n / β ^ c % β - 1) && fF met (n / β ^ c % β - 1)) = true then gV T β c (i + 1) (met ||| 2 ^ (n / β ^ c % β - 1)) n else none
theorem gV_32 {β n m : Nat} (hβ : β ≤ 6) (h0 : 0 < β) : ∀ {c i met : Nat}, met < 32 → gV T β c i met n = some m → m < 32
  | 0, i, met, hm, h => by cases h; exact hm
  | c + 1, i, met, hm, h => by
    have hd := Nat.mod_lt (n / β ^ c) h0
    unfold gV at h
    by_cases e : n / β ^ c % β = 0
    · rw [if_pos e] at h
      exact gV_32 hβ h0 hm h
    · rw [if_neg e] at h
      split at h
      · exact gV_32 hβ h0 (Nat.or_lt_two_pow (n := 5) hm (Nat.pow_lt_pow_right (a := 2) (by decide) (by omega))) h
      · cases h
theorem gV_le {β n m : Nat} (hβ : β ≤ 6) (h0 : 0 < β) : ∀ {c i met : Nat}, gV T β c i met n = some m → pb_pc m ≤ pb_pc met + mR T c i (fF met)
  | 0, i, met, h => by cases h; exact Nat.le_refl _
  | c + 1, i, met, h => by
    have hd := Nat.mod_lt (n / β ^ c) h0
    unfold gV at h
    by_cases e : n / β ^ c % β = 0
    · rw [if_pos e] at h
      have h1 := gV_le hβ h0 h
      have h2 := mR_0 (T := T) (F := fF met) c i
      omega
    · rw [if_neg e] at h
      split at h
      · rename_i q
        have h1 := gV_le hβ h0 h
        have h2 := mR_b (T := T) (F := fF met) c i (b := n / β ^ c % β - 1) (by omega) q
        rw [Bool.and_eq_true] at q
        have h3 := q.2
        unfold fF at h3
        rw [fF_or, pc_or (by omega) (by simpa using h3)] at h1
        omega
      · cases h
def ch (T : Nat → Nat → Bool) (c i : Nat) (F : Nat → Bool) : Nat := if mR T c (i + 1) F = mR T (c + 1) i F then 0 else ((pb_fst (fun b => (T i b && F b) && (1 + mR T c (i + 1) (rm F b) == mR T (c + 1) i F)) 5 0).map (· + 1)).getD 0
def nf (F : Nat → Bool) (d : Nat) : Nat → Bool := if d = 0 then F else rm F (d - 1)
theorem ch_of (c i : Nat) (F : Nat → Bool) : (ch T c i F = 0 ∧ mR T c (i + 1) F = mR T (c + 1) i F) ∨ ∃ b, ch T c i F = b + 1 ∧ b < 5 ∧ (T i b && F b) = true ∧ 1 + mR T c (i + 1) (rm F b) = mR T (c + 1) i F ∧ mR T c (i + 1) F < mR T (c + 1) i F ∧ ∀ b', b' < b → (T i b' && F b') = true → 1 + mR T c (i + 1) (rm F b') < mR T (c + 1) i F := by
  unfold ch
  by_cases e : mR T c (i + 1) F = mR T (c + 1) i F
  · rw [if_pos e]
    exact Or.inl ⟨rfl, e⟩
  · rw [if_neg e]
    have h0 := mR_0 (T := T) (F := F) c i
    cases q : pb_fst (fun b => (T i b && F b) && (1 + mR T c (i + 1) (rm F b) == mR T (c + 1) i F)) 5 0 with
    | none =>
      exfalso
      rcases mR_c (T := T) (F := F) c i with r | ⟨b, hb, r1, r2⟩
      · exact e r.symm
      · have := pb_fst_none q b (by omega) (by omega)
        rw [r1, Bool.true_and, r2] at this
        simp at this
    | some b =>
      obtain ⟨k1, k2, k3, k4⟩ := pb_fst_some q
      rw [Bool.and_eq_true, beq_iff_eq] at k3
      refine Or.inr ⟨b, rfl, by omega, k3.1, k3.2, by omega, fun b' hb' r => ?_⟩
      have h1 := mR_b (T := T) (F := F) c i (b := b') (by omega) r
      have h2 := k4 b' (by omega) hb'
      rw [r, Bool.true_and] at h2
      have h3 : 1 + mR T c (i + 1) (rm F b') ≠ mR T (c + 1) i F := by simpa using h2
      omega
theorem chd_lt (hT : ∀ p b, T p b = true → b < B) (c i : Nat) (F : Nat → Bool) : ch T c i F < B + 1 := by
  rcases ch_of (T := T) c i F with ⟨h, -⟩ | ⟨b, h, -, h2, -⟩
  · omega
  · rw [Bool.and_eq_true] at h2
    have := hT i b h2.1
    omega
def gN (T : Nat → Nat → Bool) (β : Nat) : Nat → Nat → (Nat → Bool) → Nat
  | 0, _, _ => 0
  | c + 1, i, F => ch T c i F * β ^ c + gN T β c (i + 1) (nf F (ch T c i F))
theorem gN_lt (hT : ∀ p b, T p b = true → b < B) : ∀ (c i : Nat) (F : Nat → Bool), gN T (B + 1) c i F < (B + 1) ^ c
  | 0, _, _ => by simp [gN]
  | c + 1, i, F => by
    unfold gN
    have h1 := gN_lt hT c (i + 1) (nf F (ch T c i F))
    have h2 := chd_lt hT c i F
    have h3 : (ch T c i F + 1) * (B + 1) ^ c ≤ (B + 1) * (B + 1) ^ c := Nat.mul_le_mul_right _ (by omega)
    rw [Nat.add_mul, Nat.one_mul] at h3
    rw [Nat.pow_succ, Nat.mul_comm ((B + 1) ^ c) (B + 1)]
    omega
theorem fF_nf (met : Nat) {d : Nat} (hd : d ≠ 0) : fF (met ||| 2 ^ (d - 1)) = nf (fF met) d := by
  unfold nf
  rw [if_neg hd, fF_or]
theorem gN_split (hT : ∀ p b, T p b = true → b < B) (c i n : Nat) (F : Nat → Bool) : (n % (B + 1) ^ (c + 1) = gN T (B + 1) (c + 1) i F → n / (B + 1) ^ c % (B + 1) = ch T c i F ∧ n % (B + 1) ^ c = gN T (B + 1) c (i + 1) (nf F (ch T c i F))) ∧ (n % (B + 1) ^ (c + 1) < gN T (B + 1) (c + 1) i F → n / (B + 1) ^ c % (B + 1) < ch T c i F ∨ (n / (B + 1) ^ c % (B + 1) = ch T c i F ∧ n % (B + 1) ^ c < gN T (B + 1) c (i + 1) (nf F (ch T c i F)))) := by
  have hW : 0 < (B + 1) ^ c := Nat.pow_pos (by omega)
  have h1 := Nat.mod_lt n hW
  have h2 := gN_lt hT c (i + 1) (nf F (ch T c i F))
  have e : gN T (B + 1) (c + 1) i F = (B + 1) ^ c * ch T c i F + gN T (B + 1) c (i + 1) (nf F (ch T c i F)) := by
    show ch T c i F * (B + 1) ^ c + _ = _
    rw [Nat.mul_comm]
  rw [e, Nat.mod_pow_succ]
  generalize n / (B + 1) ^ c % (B + 1) = d
  generalize ch T c i F = d0 at *
  generalize gN T (B + 1) c (i + 1) (nf F d0) = g at *
  generalize (B + 1) ^ c = W at *
  have hlt : ∀ x y, x < y → W * x + W ≤ W * y := fun x y h => by
    have := Nat.mul_le_mul_left W h
    rwa [Nat.mul_succ] at this
  rcases Nat.lt_trichotomy d d0 with q | q | q
  · have := hlt d d0 q
    exact ⟨fun h => by omega, fun _ => Or.inl q⟩
  · subst q
    exact ⟨fun h => ⟨rfl, by omega⟩, fun h => Or.inr ⟨rfl, by omega⟩⟩
  · have := hlt d0 d q
    exact ⟨fun h => by omega, fun h => by omega⟩
theorem gV_hit (hB : B ≤ 5) (hT : ∀ p b, T p b = true → b < B) {n : Nat} : ∀ (c i met : Nat), n % (B + 1) ^ c = gN T (B + 1) c i (fF met) → ∃ m, gV T (B + 1) c i met n = some m ∧ pb_pc m = pb_pc met + mR T c i (fF met)
  | 0, i, met, _ => ⟨met, rfl, rfl⟩
  | c + 1, i, met, h => by
    obtain ⟨h1, h2⟩ := (gN_split hT c i n (fF met)).1 h
    rcases ch_of (T := T) c i (fF met) with ⟨e, q⟩ | ⟨b, e, hb, q1, q2, -, -⟩
    · have e2 : nf (fF met) (ch T c i (fF met)) = fF met := by unfold nf; rw [if_pos e]
      rw [e2] at h2
      obtain ⟨m, k1, k2⟩ := gV_hit hB hT c (i + 1) met h2
      refine ⟨m, ?_, by omega⟩
      unfold gV
      rw [h1, if_pos e]
      exact k1
    · have e2 : nf (fF met) (ch T c i (fF met)) = fF (met ||| 2 ^ b) := by
        unfold nf
        rw [if_neg (by omega), fF_or, e, Nat.add_sub_cancel]
      rw [e2] at h2
      obtain ⟨m, k1, k2⟩ := gV_hit hB hT c (i + 1) (met ||| 2 ^ b) h2
      have q3 := q1
      rw [Bool.and_eq_true] at q3
      have q4 := q3.2
      unfold fF at q4
      refine ⟨m, ?_, ?_⟩
      · unfold gV
        rw [h1, if_neg (by omega), e, Nat.add_sub_cancel, if_pos q1]
        exact k1
      · rw [k2, fF_or, pc_or hb (by simpa using q4)]
        omega
theorem gV_less (hB : B ≤ 5) (hT : ∀ p b, T p b = true → b < B) {n m : Nat} : ∀ (c i met : Nat), n % (B + 1) ^ c < gN T (B + 1) c i (fF met) → gV T (B + 1) c i met n = some m → pb_pc m < pb_pc met + mR T c i (fF met)
  | 0, i, met, h, _ => absurd h (Nat.not_lt_zero _)
  | c + 1, i, met, h, hv => by
    have hd := Nat.mod_lt (n / (B + 1) ^ c) (show 0 < B + 1 by omega)
    unfold gV at hv
    rcases (gN_split hT c i n (fF met)).2 h with h1 | ⟨h1, h2⟩
    · rcases ch_of (T := T) c i (fF met) with ⟨e, q⟩ | ⟨b, e, hb, q1, q2, q3, q4⟩
      · omega
      · by_cases e0 : n / (B + 1) ^ c % (B + 1) = 0
        · rw [if_pos e0] at hv
          have := gV_le (by omega) (by omega) hv
          omega
        · rw [if_neg e0] at hv
          split at hv
          · rename_i r
            have h3 := gV_le (by omega) (by omega) hv
            have h4 := q4 _ (by omega) r
            rw [Bool.and_eq_true] at r
            have h5 := r.2
            unfold fF at h5
            rw [fF_or, pc_or (by omega) (by simpa using h5)] at h3
            omega
          · cases hv
    · rw [h1] at hv
      rcases ch_of (T := T) c i (fF met) with ⟨e, q⟩ | ⟨b, e, hb, q1, q2, q3, q4⟩
      · rw [if_pos e] at hv
        have e2 : nf (fF met) (ch T c i (fF met)) = fF met := by unfold nf; rw [if_pos e]
        rw [e2] at h2
        have := gV_less hB hT c (i + 1) met h2 hv
        omega
      · rw [if_neg (by omega), e, Nat.add_sub_cancel, if_pos q1] at hv
        have e2 : nf (fF met) (ch T c i (fF met)) = fF (met ||| 2 ^ b) := by
          unfold nf
          rw [if_neg (by omega), fF_or, e, Nat.add_sub_cancel]
        rw [e2] at h2
        have h3 := gV_less hB hT c (i + 1) (met ||| 2 ^ b) h2 hv
        rw [Bool.and_eq_true] at q1
        have h5 := q1.2
        unfold fF at h5
        rw [fF_or, pc_or hb (by simpa using h5)] at h3
        omega
def wy (β : Nat) : Nat → Nat → Nat → Nat
  | 0, v, _ => v
  | c + 1, v, n => wy β c (10 * v + n / β ^ c % β) n
def cw (T : Nat → Nat → Bool) : Nat → Nat → Nat → (Nat → Bool) → Nat
  | 0, _, v, _ => v
  | c + 1, i, v, F => cw T c (i + 1) (v * 10 + ch T c i F) (nf F (ch T c i F))
theorem wy_cw (hT : ∀ p b, T p b = true → b < B) {n : Nat} : ∀ (c i v : Nat) (F : Nat → Bool), n % (B + 1) ^ c = gN T (B + 1) c i F → wy (B + 1) c v n = cw T c i v F
  | 0, _, _, _, _ => rfl
  | c + 1, i, v, F, h => by
    obtain ⟨h1, h2⟩ := (gN_split hT c i n F).1 h
    show wy (B + 1) c (10 * v + n / (B + 1) ^ c % (B + 1)) n = cw T c (i + 1) (v * 10 + ch T c i F) (nf F (ch T c i F))
    rw [h1, Nat.mul_comm 10 v]
    exact wy_cw hT c (i + 1) _ _ h2
end WAYS
