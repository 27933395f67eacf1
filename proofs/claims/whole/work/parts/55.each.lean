section EACH
variable {K : Nat} {S : pb_S} {μ : pb_M} {a : pb_Vg} {M : Nat} {T : Nat → Nat → Bool}
theorem fst_congr {q q' : Nat → Bool} : ∀ {c b : Nat}, (∀ e, b ≤ e → e < b + c → q e = q' e) → pb_fst q c b = pb_fst q' c b
  | 0, _, _ => rfl
  | c + 1, b, h => by
    unfold pb_fst
    rw [h b (by omega) (by omega), fst_congr (c := c) (b := b + 1) (fun e h1 h2 => h e (by omega) (by omega))]
theorem ch_congr (c i : Nat) {F F' : Nat → Bool} (h : ∀ b, b < 5 → F b = F' b) : ch T c i F = ch T c i F' := by
  unfold ch
  rw [mR_congr c (i + 1) h, mR_congr (c + 1) i h]
  congr 3
  refine fst_congr fun e h1 h2 => ?_
  rw [h e (by omega), mR_congr c (i + 1) (F := rm F e) (F' := rm F' e) (fun b hb => by unfold rm; rw [h b hb])]
theorem nf_congr (d : Nat) {F F' : Nat → Bool} (h : ∀ b, b < 5 → F b = F' b) : ∀ b, b < 5 → nf F d b = nf F' d b := fun b hb => by
  unfold nf rm
  split
  · exact h b hb
  · show (F b && (b != d - 1)) = (F' b && (b != d - 1))
    rw [h b hb]
theorem cw_congr : ∀ (c i v : Nat) {F F' : Nat → Bool}, (∀ b, b < 5 → F b = F' b) → cw T c i v F = cw T c i v F'
  | 0, _, _, _, _, _ => rfl
  | c + 1, i, v, F, F', h => by
    show cw T c (i + 1) (v * 10 + ch T c i F) (nf F (ch T c i F)) = cw T c (i + 1) (v * 10 + ch T c i F') (nf F' (ch T c i F'))
    rw [ch_congr c i h]
    exact cw_congr c (i + 1) _ (nf_congr _ h)
theorem ev_tab : ∀ P, P < 5 → ∀ i, i < P → (nI (2 ^ P - 1) &&& (((nI (2 ^ (i + 1))) - (1 : Int32)) ^^^ (-1 : Int32))) = nI (2 ^ P - 2 ^ (i + 1)) ∧ 2 ^ P - 2 ^ (i + 1) < 2 ^ P ∧ ∀ p, p < 4 → (2 ^ P - 2 ^ (i + 1)).testBit p = ((2 ^ P - 1).testBit p && (decide (i + 1 ≤ p) && decide (p < P))) := by decide +kernel
theorem fr_tab : ∀ f, f < 32 → ∀ b, b < 5 → (nI f &&& ((nI (2 ^ b)) ^^^ (-1 : Int32))) = nI (f &&& (31 ^^^ 2 ^ b)) ∧ f &&& (31 ^^^ 2 ^ b) < 32 ∧ ∀ c, c < 5 → (f &&& (31 ^^^ 2 ^ b)).testBit c = (f.testBit c && (c != b)) := by decide +kernel
theorem c_every (hl : pb_LK μ a) (hP : vP a ≤ 4) : pX2_everybody μ = some (nI (2 ^ vP a - 1), μ) := by
  unfold pX2_everybody
  rw [hl.1, q_shl (by omega), show nI (2 ^ vP a) - (1 : Int32) = nI (2 ^ vP a - 1) from pk_sub (Nat.two_pow_pos _)]
theorem all_bit : ∀ P, P < 5 → ∀ p, p < 4 → (2 ^ P - 1).testBit p = decide (p < P) := by decide +kernel
def tE (a : pb_Vg) : Nat → Nat → Bool := tS2 a (2 ^ vP a - 1)
theorem tE_at (hP : vP a ≤ 4) {p b : Nat} (hp : p < vP a) : tE a p b = (vTak a p).testBit b := by
  unfold tE tS2
  rw [tA_at hp, all_bit (vP a) (by omega) p (by omega), decide_eq_true hp, Bool.true_and]
/-- the number for those behind person i, some beasts free -/
theorem c_behind (hl : pb_LK μ a) (hP : vP a ≤ 4) (hB : vB a ≤ 5) {c i f : Nat} (hi : i + (c + 1) = vP a) (hff : f < 32) : pX2_mostOf (nI (2 ^ vP a - 2 ^ (i + 1))) (nI f) μ = some (nI (mR (tE a) c (i + 1) f.testBit), μ) := by
  obtain ⟨-, e2, e3⟩ := ev_tab (vP a) (by omega) i (by omega)
  have hin : ∀ p, p < 4 → (2 ^ vP a - 2 ^ (i + 1)).testBit p = true → p < vP a := fun p hp q => by
    rw [e3 p hp] at q
    simp at q
    exact q.2.2
  refine c_mostOf (T := tE a) hl hP hB e2 hff (fun p hp q b hb => tE_at hP (hin p hp q)) ?_
  have h := hall (T := tE a) (Sx := 2 ^ vP a - 1) hP (fun p b q => by unfold tE tS2; rw [q, Bool.false_and]) c (i + 1) f.testBit (by omega)
  exact IsH_congr (fun p hp => (e3 p hp).symm) h
theorem mR_4 (F : Nat → Bool) (hP : vP a ≤ 4) (c i : Nat) (hi : i + c = vP a) : mR (tE a) c i F ≤ 4 := by
  have h := hall (T := tE a) (Sx := 2 ^ vP a - 1) hP (fun p b q => by unfold tE tS2; rw [q, Bool.false_and]) c i F hi
  have h0 := h.1 0 (by omega) (fun p _ q => by simp at q)
  have e0 : hn5 (tE a) F 0 = 0 := by
    unfold hn5 nb
    simp [bz1, pb_sum]
  have e4 : hp4 (gF (2 ^ vP a - 1) (vP a) i) 0 ≤ 4 * 1 := pb_sum_le fun p _ => by
    unfold bz1
    split <;> omega
  unfold hf at h0
  omega
theorem rm_bit {f b : Nat} (hff : f < 32) (hb : b < 5) : ∀ c, c < 5 → (f &&& (31 ^^^ 2 ^ b)).testBit c = rm f.testBit b c := fun c hc => (fr_tab f hff b hb).2.2 c hc
theorem c_fcL (hl : pb_LK μ a) (hP : vP a ≤ 4) (hB : vB a ≤ 5) {c i f w : Nat} (hi : i + (c + 1) = vP a) (hff : f < 32) (hw : w < 100) : ∀ (cc b n : Nat), b + cc = 5 → cc < n → pX2_firstChoice_L30 (nI i) (nI f) (nI w) (nI (2 ^ vP a - 2 ^ (i + 1))) n (nI b) μ = some (nI (((pb_fst (fun b => (tE a i b && f.testBit b) && (1 + mR (tE a) c (i + 1) (rm f.testBit b) == w)) cc b).map (· + 1)).getD 0), μ)
  | _, _, 0, _, hn => by omega
  | 0, b, n + 1, hb, _ => by
    rw [pX2_firstChoice_L30, if_pos (show (5 : Int32) ≤ nI b from (nI_leI (a := 5) (by omega) (by omega)).mpr (by omega))]
    rfl
  | cc + 1, b, n + 1, hb, hn => by
    have ih := c_fcL hl hP hB hi hff hw cc (b + 1) n (by omega) (by omega)
    have n1 : nI b + (1 : Int32) = nI (b + 1) := nI_add b 1
    obtain ⟨e1, e2, -⟩ := fr_tab f hff b (by omega)
    have hx : vTak a i &&& f < 32 := Nat.lt_of_le_of_lt Nat.and_le_right hff
    have hm := c_behind hl hP hB hi e2
    rw [mR_congr c (i + 1) (rm_bit hff (show b < 5 by omega))] at hm
    have hle := mR_4 (a := a) (rm f.testBit b) hP c (i + 1) (by omega)
    rw [pX2_firstChoice_L30, if_neg (show ¬ (5 : Int32) ≤ nI b from fun z => (show ¬ 5 ≤ b by omega) ((nI_leI (a := 5) (by omega) (by omega)).mp z)), if_pos (q_in (by omega) (by omega)), q_cl (by omega), hl.2 i (by omega), q_and, c_has (by omega) (by omega), pb_b_some, n1, q_shl (by omega), e1]
    unfold pb_fst
    rw [Nat.testBit_and, tE_at hP (show i < vP a by omega)]
    by_cases q : ((vTak a i).testBit b && f.testBit b) = true
    · rw [if_pos q, if_neg (by decide), hm, pb_b_some, show (1 : Int32) + nI (mR (tE a) c (i + 1) (rm f.testBit b)) = nI (1 + mR (tE a) c (i + 1) (rm f.testBit b)) from nI_add 1 _, q, Bool.true_and]
      by_cases r : 1 + mR (tE a) c (i + 1) (rm f.testBit b) = w
      · rw [if_pos (by rw [r]), if_pos (by simpa using r)]
        rfl
      · rw [if_neg (fun z => r ((nI_eq (by omega) (by omega)).mp z)), ih, if_neg (by simpa using r)]
    · have q' : ((vTak a i).testBit b && f.testBit b) = false := by simpa using q
      rw [q', if_neg (show ¬ false = true from by decide), if_pos (show nI 0 = (0 : Int32) from rfl), ih, Bool.false_and, if_neg (by decide)]
theorem c_fc (hl : pb_LK μ a) (hP : vP a ≤ 4) (hB : vB a ≤ 5) {c i f : Nat} (hi : i + (c + 1) = vP a) (hff : f < 32) : pX2_firstChoice (nI i) (nI f) (nI (mR (tE a) (c + 1) i f.testBit)) μ = some (nI (ch (tE a) c i f.testBit), μ) := by
  have h4 := mR_4 (a := a) f.testBit hP (c + 1) i hi
  have h5 := mR_4 (a := a) f.testBit hP c (i + 1) (by omega)
  unfold pX2_firstChoice ch
  rw [c_every hl hP, pb_b_some, show (2 : Int32) <<< (nI i &&& 31) = nI (2 ^ (i + 1)) from q_bit2 (by omega), (ev_tab (vP a) (by omega) i (by omega)).1, c_behind hl hP hB hi hff, pb_b_some]
  by_cases e : mR (tE a) c (i + 1) f.testBit = mR (tE a) (c + 1) i f.testBit
  · rw [if_pos (by rw [e]), if_pos e]
    rfl
  · rw [if_neg (fun z => e ((nI_eq (by omega) (by omega)).mp z)), if_neg e]
    exact c_fcL hl hP hB hi hff (by omega) 5 0 pb_F (by omega) (pb_Fgt (by omega))
theorem c_fwL (hl : pb_LK μ a) (hP : vP a ≤ 4) (hB : vB a ≤ 5) : ∀ (c i n v f : Nat), i + c = vP a → c < n → f < 32 → pX2_firstWay_L13 n (nI v) (nI f) (nI (mR (tE a) c i f.testBit)) (nI i) μ = some (nI (cw (tE a) c i v f.testBit), μ)
  | _, _, 0, _, _, _, hn, _ => by omega
  | 0, i, n + 1, v, f, hi, _, _ => by
    rw [pX2_firstWay_L13, hl.1, if_pos ((nI_leI (by omega) (by omega)).mpr (by omega))]
    rfl
  | c + 1, i, n + 1, v, f, hi, hn, hff => by
    have n1 : nI i + (1 : Int32) = nI (i + 1) := nI_add i 1
    have h4 := mR_4 (a := a) f.testBit hP (c + 1) i hi
    rw [pX2_firstWay_L13, hl.1, if_neg (fun z => (show ¬ vP a ≤ i by omega) ((nI_leI (by omega) (by omega)).mp z)), c_fc hl hP hB hi hff, pb_b_some, n1, show nI v * (10 : Int32) = nI (v * 10) from pk_mul v 10, nI_add]
    show _ = some (nI (cw (tE a) c (i + 1) (v * 10 + ch (tE a) c i f.testBit) (nf f.testBit (ch (tE a) c i f.testBit))), μ)
    rcases ch_of (T := tE a) c i f.testBit with ⟨e, q⟩ | ⟨b, e, hb, q1, q2, -, -⟩
    · rw [e, if_pos (show nI 0 ≤ (0 : Int32) from by decide), ← q]
      exact c_fwL hl hP hB c (i + 1) n _ f (by omega) (by omega) hff
    · obtain ⟨e1, e2, -⟩ := fr_tab f hff b hb
      have hnf : nf f.testBit (b + 1) = rm f.testBit b := by unfold nf; rw [if_neg (by omega), Nat.add_sub_cancel]
      have ih := c_fwL hl hP hB c (i + 1) n (v * 10 + (b + 1)) (f &&& (31 ^^^ 2 ^ b)) (by omega) (by omega) e2
      rw [mR_congr c (i + 1) (rm_bit hff hb), cw_congr c (i + 1) _ (rm_bit hff hb)] at ih
      rw [e, if_neg (show ¬ nI (b + 1) ≤ (0 : Int32) from fun z => (show ¬ b + 1 ≤ 0 by omega) ((nI_leI (b := 0) (by omega) (by omega)).mp z)), show nI (b + 1) - (1 : Int32) = nI b from pk_sub (show 1 ≤ b + 1 by omega), q_shl (by omega), e1, ← q2, Nat.add_comm 1, show nI (mR (tE a) c (i + 1) (rm f.testBit b) + 1) + (-1 : Int32) = nI (mR (tE a) c (i + 1) (rm f.testBit b)) from pk_m1 _, hnf]
      exact ih
theorem c31 : ∀ b, b < 5 → (31 : Nat).testBit b = fF 0 b := by decide
theorem c_most (hl : pb_LK μ a) (hP : vP a ≤ 4) (hB : vB a ≤ 5) : pX2_most μ = some (nI (mR (tE a) (vP a) 0 (fF 0)), μ) := by
  unfold pX2_most
  rw [c_every hl hP, pb_b_some, c_mA hl hP hB (by have := Nat.two_pow_pos (vP a); omega), pb_b_some]
  rfl
theorem c_first (hl : pb_LK μ a) (hP : vP a ≤ 4) (hB : vB a ≤ 5) : pX2_firstWay μ = some (nI (cw (tE a) (vP a) 0 0 (fF 0)), μ) := by
  unfold pX2_firstWay
  rw [c_most hl hP hB, pb_b_some]
  have := c_fwL hl hP hB (vP a) 0 pb_F 0 31 (by omega) (pb_Fgt (by omega)) (by omega)
  rw [mR_congr (vP a) 0 c31, cw_congr (vP a) 0 0 c31] at this
  exact this
end EACH
