/-! most people that can get a beast each: what one by one choices reach is what Hall's count allows -/
section HALL
variable {T : Nat → Nat → Bool} {G F : Nat → Bool}
theorem sum_le {q r : Nat → Nat} : ∀ {n : Nat}, (∀ b, b < n → q b ≤ r b) → pb_sum q n ≤ pb_sum r n
  | 0, _ => Nat.le_refl _
  | n + 1, h => by
    unfold pb_sum
    have h1 := sum_le (q := q) (r := r) (n := n) (fun b hb => h b (by omega))
    have h2 := h n (by omega)
    omega
theorem sum_add (q r : Nat → Nat) : ∀ n : Nat, pb_sum q n + pb_sum r n = pb_sum (fun b => q b + r b) n
  | 0 => rfl
  | n + 1 => by
    unfold pb_sum
    have := sum_add q r n
    omega
theorem sum_lt {q r : Nat → Nat} {e : Nat} : ∀ {n : Nat}, (∀ b, b < n → q b ≤ r b) → e < n → q e < r e → pb_sum q n < pb_sum r n
  | 0, _, h, _ => by omega
  | n + 1, h, he, hlt => by
    unfold pb_sum
    have h2 := h n (by omega)
    by_cases e2 : e = n
    · subst e2
      have h1 := sum_le (q := q) (r := r) (n := e) (fun b hb => h b (by omega))
      omega
    · have h1 := sum_lt (q := q) (r := r) (n := n) (fun b hb => h b (by omega)) (by omega) hlt
      omega
theorem sum_one {q r : Nat → Nat} {e k : Nat} : ∀ {n : Nat}, (∀ b, b < n → b ≠ e → q b = r b) → e < n → q e = r e + k → pb_sum q n = pb_sum r n + k
  | 0, _, h, _ => by omega
  | n + 1, h, he, hk => by
    unfold pb_sum
    by_cases e2 : e = n
    · subst e2
      have h1 := pb_sum_congr (q := q) (q' := r) (n := e) (fun b hb => h b (by omega) (by omega))
      omega
    · have h1 := sum_one (q := q) (r := r) (n := n) (fun b hb => h b (by omega)) (by omega) hk
      have h2 := h n (by omega) (by omega)
      omega
/-- a greatest number, one by one -/
def fm (q : Nat → Bool) (w : Nat → Nat) (b v : Nat) : Nat := if q b = true then max v (w b) else v
theorem fm_ge (q : Nat → Bool) (w : Nat → Nat) : ∀ c b v, v ≤ pb_it (fm q w) c b v
  | 0, _, _ => Nat.le_refl _
  | c + 1, b, v => by
    show v ≤ pb_it (fm q w) c (b + 1) (fm q w b v)
    have h := fm_ge q w c (b + 1) (fm q w b v)
    have h2 : v ≤ fm q w b v := by
      unfold fm
      split
      · exact Nat.le_max_left _ _
      · exact Nat.le_refl _
    omega
theorem fm_mem (q : Nat → Bool) (w : Nat → Nat) {e : Nat} (hq : q e = true) : ∀ c b v, b ≤ e → e < b + c → w e ≤ pb_it (fm q w) c b v
  | 0, _, _, h1, h2 => by omega
  | c + 1, b, v, h1, h2 => by
    show w e ≤ pb_it (fm q w) c (b + 1) (fm q w b v)
    by_cases e2 : e = b
    · subst e2
      have h := fm_ge q w c (e + 1) (fm q w e v)
      have h2 : w e ≤ fm q w e v := by
        unfold fm
        rw [if_pos hq]
        exact Nat.le_max_right _ _
      omega
    · exact fm_mem q w hq c (b + 1) _ (by omega) (by omega)
theorem fm_or (q : Nat → Bool) (w : Nat → Nat) : ∀ c b v, pb_it (fm q w) c b v = v ∨ ∃ e, b ≤ e ∧ e < b + c ∧ q e = true ∧ pb_it (fm q w) c b v = w e
  | 0, _, _ => Or.inl rfl
  | c + 1, b, v => by
    show pb_it (fm q w) c (b + 1) (fm q w b v) = v ∨ ∃ e, b ≤ e ∧ e < b + (c + 1) ∧ q e = true ∧ pb_it (fm q w) c (b + 1) (fm q w b v) = w e
    rcases fm_or q w c (b + 1) (fm q w b v) with h | ⟨e, h1, h2, h3, h4⟩
    · rw [h]
      by_cases e0 : q b = true
      · have e1 : fm q w b v = max v (w b) := by unfold fm; rw [if_pos e0]
        by_cases e2 : v ≤ w b
        · exact Or.inr ⟨b, by omega, by omega, e0, by rw [e1, Nat.max_eq_right e2]⟩
        · exact Or.inl (by rw [e1, Nat.max_eq_left (by omega)])
      · exact Or.inl (by unfold fm; rw [if_neg e0])
    · exact Or.inr ⟨e, by omega, by omega, h3, h4⟩
def rm (F : Nat → Bool) (b : Nat) : Nat → Bool := fun c => F c && (c != b)
def mR (T : Nat → Nat → Bool) : Nat → Nat → (Nat → Bool) → Nat
  | 0, _, _ => 0
  | c + 1, i, F => pb_it (fm (fun b => T i b && F b) (fun b => 1 + mR T c (i + 1) (rm F b))) 5 0 (mR T c (i + 1) F)
theorem mR_0 (c i : Nat) : mR T c (i + 1) F ≤ mR T (c + 1) i F := fm_ge _ _ 5 0 _
theorem mR_b (c i : Nat) {b : Nat} (hb : b < 5) (h : (T i b && F b) = true) : 1 + mR T c (i + 1) (rm F b) ≤ mR T (c + 1) i F := fm_mem (fun b => T i b && F b) (fun b => 1 + mR T c (i + 1) (rm F b)) h 5 0 _ (by omega) (by omega)
theorem mR_c (c i : Nat) : mR T (c + 1) i F = mR T c (i + 1) F ∨ ∃ b, b < 5 ∧ (T i b && F b) = true ∧ mR T (c + 1) i F = 1 + mR T c (i + 1) (rm F b) := by
  rcases fm_or (fun b => T i b && F b) (fun b => 1 + mR T c (i + 1) (rm F b)) 5 0 (mR T c (i + 1) F) with h | ⟨e, h1, h2, h3, h4⟩
  · exact Or.inl h
  · exact Or.inr ⟨e, by omega, h3, h4⟩
theorem it_congr {σ : Type} {f g : Nat → σ → σ} : ∀ {c b : Nat} {s : σ}, (∀ e s, b ≤ e → e < b + c → f e s = g e s) → pb_it f c b s = pb_it g c b s
  | 0, _, _, _ => rfl
  | c + 1, b, s, h => by
    show pb_it f c (b + 1) (f b s) = pb_it g c (b + 1) (g b s)
    rw [h b s (by omega) (by omega)]
    exact it_congr (fun e s h1 h2 => h e s (by omega) (by omega))
theorem mR_congr : ∀ (c i : Nat) {F F' : Nat → Bool}, (∀ b, b < 5 → F b = F' b) → mR T c i F = mR T c i F'
  | 0, _, _, _, _ => rfl
  | c + 1, i, F, F', h => by
    unfold mR
    rw [mR_congr c (i + 1) h]
    refine it_congr fun e s h1 h2 => ?_
    show (if (T i e && F e) = true then max s (1 + mR T c (i + 1) (rm F e)) else s) = (if (T i e && F' e) = true then max s (1 + mR T c (i + 1) (rm F' e)) else s)
    rw [h e (by omega), mR_congr c (i + 1) (F := rm F e) (F' := rm F' e) (fun b hb => by unfold rm; rw [h b hb])]
def nb (T : Nat → Nat → Bool) (X b : Nat) : Bool := ((X.testBit 0 && T 0 b) || (X.testBit 1 && T 1 b)) || ((X.testBit 2 && T 2 b) || (X.testBit 3 && T 3 b))
def bz1 (c : Bool) : Nat := if c = true then 1 else 0
def hp4 (G : Nat → Bool) (X : Nat) : Nat := pb_sum (fun p => bz1 (G p && !X.testBit p)) 4
def hn5 (T : Nat → Nat → Bool) (F : Nat → Bool) (X : Nat) : Nat := pb_sum (fun b => bz1 (F b && nb T X b)) 5
def hf (T : Nat → Nat → Bool) (G F : Nat → Bool) (X : Nat) : Nat := hp4 G X + hn5 T F X
def hs (X : Nat) (G : Nat → Bool) : Prop := ∀ p, p < 4 → X.testBit p = true → G p = true
def IsH (T : Nat → Nat → Bool) (G F : Nat → Bool) (h : Nat) : Prop := (∀ X, X < 16 → hs X G → h ≤ hf T G F X) ∧ ∃ X, X < 16 ∧ hs X G ∧ hf T G F X ≤ h
theorem bz1_le {c d : Bool} (h : c = true → d = true) : bz1 c ≤ bz1 d := by
  cases c
  · exact Nat.zero_le _
  · rw [h rfl]; exact Nat.le_refl _
theorem nb_or (A B b : Nat) : nb T (A ||| B) b = (nb T A b || nb T B b) := by
  unfold nb
  simp only [Nat.testBit_or]
  simp only [Bool.and_or_distrib_right]
  ac_rfl
theorem nb_and (A B b : Nat) (h : nb T (A &&& B) b = true) : nb T A b = true ∧ nb T B b = true := by
  unfold nb at *
  simp only [Nat.testBit_and, Bool.or_eq_true, Bool.and_eq_true] at *
  rcases h with (⟨⟨h1, h2⟩, h3⟩ | ⟨⟨h1, h2⟩, h3⟩) | ⟨⟨h1, h2⟩, h3⟩ | ⟨⟨h1, h2⟩, h3⟩
  · exact ⟨Or.inl (Or.inl ⟨h1, h3⟩), Or.inl (Or.inl ⟨h2, h3⟩)⟩
  · exact ⟨Or.inl (Or.inr ⟨h1, h3⟩), Or.inl (Or.inr ⟨h2, h3⟩)⟩
  · exact ⟨Or.inr (Or.inl ⟨h1, h3⟩), Or.inr (Or.inl ⟨h2, h3⟩)⟩
  · exact ⟨Or.inr (Or.inr ⟨h1, h3⟩), Or.inr (Or.inr ⟨h2, h3⟩)⟩
theorem hf_sub (A B : Nat) : hf T G F (A ||| B) + hf T G F (A &&& B) ≤ hf T G F A + hf T G F B := by
  have h1 : hp4 G (A ||| B) + hp4 G (A &&& B) ≤ hp4 G A + hp4 G B := by
    unfold hp4
    rw [sum_add, sum_add]
    refine sum_le fun p hp => ?_
    rw [Nat.testBit_or, Nat.testBit_and]
    cases G p <;> cases A.testBit p <;> cases B.testBit p <;> decide
  have h2 : hn5 T F (A ||| B) + hn5 T F (A &&& B) ≤ hn5 T F A + hn5 T F B := by
    unfold hn5
    rw [sum_add, sum_add]
    refine sum_le fun b hb => ?_
    have h3 := nb_and (T := T) A B b
    rw [nb_or]
    revert h3
    cases F b <;> cases nb T A b <;> cases nb T B b <;> cases nb T (A &&& B) b <;> simp [bz1]
  unfold hf
  omega
theorem rm_le (b X : Nat) : hn5 T (rm F b) X ≤ hn5 T F X := by
  unfold hn5
  refine sum_le fun e _ => bz1_le ?_
  unfold rm
  cases F e <;> cases (e != b) <;> simp
theorem rm_in {b X : Nat} (hb : b < 5) (hF : F b = true) (h : nb T X b = true) : hn5 T F X = hn5 T (rm F b) X + 1 := by
  unfold hn5
  refine sum_one (e := b) (fun e _ hne => ?_) hb ?_
  · unfold rm
    have : (e != b) = true := by simpa using hne
    rw [this, Bool.and_true]
  · unfold rm
    rw [hF, h]
    simp [bz1]
theorem rm_out {b X : Nat} (hb : b < 5) (h : nb T X b = false) : hn5 T F X = hn5 T (rm F b) X := by
  unfold hn5
  refine pb_sum_congr fun e _ => ?_
  unfold rm
  by_cases q : e = b
  · subst q
    rw [h]
    simp
  · have : (e != b) = true := by simpa using q
    rw [this, Bool.and_true]
theorem xr : ∀ i, i < 4 → ∀ X, X < 16 → (X &&& (15 ^^^ 2 ^ i)) < 16 ∧ (X ||| 2 ^ i) < 16 ∧ ∀ p, p < 4 → (X &&& (15 ^^^ 2 ^ i)).testBit p = (X.testBit p && (p != i)) ∧ (X ||| 2 ^ i).testBit p = (X.testBit p || (p == i)) := by decide +kernel
theorem hs_or {A B : Nat} (hA : hs A G) (hB : hs B G) : hs (A ||| B) G := fun p hp h => by
  rw [Nat.testBit_or, Bool.or_eq_true] at h
  rcases h with h | h
  · exact hA p hp h
  · exact hB p hp h
theorem hs_and {A B : Nat} (hA : hs A G) : hs (A &&& B) G := fun p hp h => by
  rw [Nat.testBit_and, Bool.and_eq_true] at h
  exact hA p hp h.1
theorem nb_at {X Y b : Nat} (h : ∀ p, p < 4 → X.testBit p = Y.testBit p) : nb T X b = nb T Y b := by
  unfold nb
  rw [h 0 (by omega), h 1 (by omega), h 2 (by omega), h 3 (by omega)]
theorem nb_add {X i b : Nat} (hi : i < 4) (hX : X < 16) : nb T (X ||| 2 ^ i) b = (nb T X b || T i b) := by
  rw [nb_or]
  congr 1
  unfold nb
  rcases (show i = 0 ∨ i = 1 ∨ i = 2 ∨ i = 3 by omega) with rfl | rfl | rfl | rfl
  · simp [show Nat.testBit 1 0 = true by decide, show Nat.testBit 1 1 = false by decide, show Nat.testBit 1 2 = false by decide, show Nat.testBit 1 3 = false by decide]
  · simp [show Nat.testBit 2 0 = false by decide, show Nat.testBit 2 1 = true by decide, show Nat.testBit 2 2 = false by decide, show Nat.testBit 2 3 = false by decide]
  · simp [show Nat.testBit 4 0 = false by decide, show Nat.testBit 4 1 = false by decide, show Nat.testBit 4 2 = true by decide, show Nat.testBit 4 3 = false by decide]
  · simp [show Nat.testBit 8 0 = false by decide, show Nat.testBit 8 1 = false by decide, show Nat.testBit 8 2 = false by decide, show Nat.testBit 8 3 = true by decide]
def gi (G : Nat → Bool) (i : Nat) : Nat → Bool := fun p => G p || (p == i)
theorem hf_no {i X : Nat} (hi : i < 4) (hG : G i = false) (hX : X.testBit i = false) : hf T (gi G i) F X = hf T G F X + 1 := by
  have : hp4 (gi G i) X = hp4 G X + 1 := by
    unfold hp4
    refine sum_one (e := i) (fun p _ hne => ?_) hi ?_
    · unfold gi
      have : (p == i) = false := by simpa using hne
      rw [this, Bool.or_false]
    · unfold gi
      rw [hG, hX]
      simp [bz1]
  unfold hf
  omega
theorem hp_in {i X : Nat} (hi : i < 4) (hX : X < 16) (hG : G i = false) : hp4 (gi G i) (X ||| 2 ^ i) = hp4 G X := by
  unfold hp4
  refine pb_sum_congr fun p hp => ?_
  rw [((xr i hi X hX).2.2 p hp).2]
  unfold gi
  by_cases e : p = i
  · subst e
    rw [hG]
    simp [bz1]
  · have : (p == i) = false := by simpa using e
    rw [this, Bool.or_false, Bool.or_false]
theorem hf_in {i X : Nat} (hi : i < 4) (hX : X < 16) (hG : G i = false) : hf T (gi G i) F (X ||| 2 ^ i) = hp4 G X + pb_sum (fun b => bz1 (F b && (nb T X b || T i b))) 5 := by
  unfold hf hn5
  rw [hp_in hi hX hG]
  congr 1
  exact pb_sum_congr fun b _ => by rw [nb_add hi hX]
theorem IsH_step {c i : Nat} (hi : i < 4) (hG : G i = false) (h : ∀ F, IsH T G F (mR T c (i + 1) F)) : IsH T (gi G i) F (mR T (c + 1) i F) := by
  constructor
  · intro X hX hs'
    obtain ⟨x1, -, x3⟩ := xr i hi X hX
    have hs0 : hs (X &&& (15 ^^^ 2 ^ i)) G := fun p hp q => by
      rw [(x3 p hp).1, Bool.and_eq_true] at q
      have := hs' p hp q.1
      unfold gi at this
      rw [Bool.or_eq_true] at this
      rcases this with r | r
      · exact r
      · have := q.2
        simp at this r
        omega
    by_cases hin : X.testBit i = true
    · have hX0 : ∀ p, p < 4 → X.testBit p = ((X &&& (15 ^^^ 2 ^ i)) ||| 2 ^ i).testBit p := fun p hp => by
        rw [((xr i hi _ x1).2.2 p hp).2, (x3 p hp).1]
        by_cases e : p = i
        · rw [e, hin]; simp
        · have e1 : (p != i) = true := by simpa using e
          have e2 : (p == i) = false := by simpa using e
          rw [e1, e2, Bool.and_true, Bool.or_false]
      have hfe : hf T (gi G i) F X = hf T (gi G i) F ((X &&& (15 ^^^ 2 ^ i)) ||| 2 ^ i) := by
        unfold hf hp4 hn5
        congr 1
        · exact pb_sum_congr fun p hp => by rw [hX0 p hp]
        · exact pb_sum_congr fun b _ => by rw [nb_at hX0]
      rw [hfe, hf_in hi x1 hG]
      generalize X &&& (15 ^^^ 2 ^ i) = Y at *
      rcases mR_c (T := T) (F := F) c i with e | ⟨b, hb, q, e⟩
      · rw [e]
        have h1 := (h F).1 Y x1 hs0
        unfold hf hn5 at h1
        have h2 : pb_sum (fun b => bz1 (F b && nb T Y b)) 5 ≤ pb_sum (fun b => bz1 (F b && (nb T Y b || T i b))) 5 := sum_le fun b _ => bz1_le (by cases F b <;> cases nb T Y b <;> simp)
        omega
      · rw [e]
        rw [Bool.and_eq_true] at q
        have h1 := (h (rm F b)).1 Y x1 hs0
        unfold hf hn5 at h1
        have h2 : pb_sum (fun e => bz1 (rm F b e && nb T Y e)) 5 < pb_sum (fun b => bz1 (F b && (nb T Y b || T i b))) 5 := sum_lt (e := b) (fun e _ => bz1_le (by unfold rm; cases F e <;> cases nb T Y e <;> simp)) hb (by
          unfold rm
          rw [q.1, q.2]
          simp [bz1])
        omega
    · have hin' : X.testBit i = false := by simpa using hin
      rw [hf_no hi hG hin']
      have hsX : hs X G := fun p hp q => by
        have := hs' p hp q
        unfold gi at this
        rw [Bool.or_eq_true] at this
        rcases this with r | r
        · exact r
        · simp at r
          rw [r, hin'] at q
          cases q
      rcases mR_c (T := T) (F := F) c i with e | ⟨b, hb, q, e⟩
      · rw [e]
        have h1 := (h F).1 X hX hsX
        omega
      · rw [e]
        have h1 := (h (rm F b)).1 X hX hsX
        have h2 := rm_le (T := T) (F := F) b X
        unfold hf at h1 ⊢
        omega
  · obtain ⟨X, hX, hsX, hle⟩ := (h F).2
    by_cases hex : ∃ b, b < 5 ∧ (T i b && F b) = true ∧ mR T c (i + 1) F ≤ mR T c (i + 1) (rm F b)
    · obtain ⟨b, hb, q, hbb⟩ := hex
      have h1 := mR_b (T := T) (F := F) c i hb q
      by_cases hin : X.testBit i = true
      · have := hsX i hi hin
        rw [hG] at this
        cases this
      · have hin' : X.testBit i = false := by simpa using hin
        refine ⟨X, hX, fun p hp r => ?_, ?_⟩
        · unfold gi
          rw [hsX p hp r]
          rfl
        · rw [hf_no hi hG hin']
          omega
    · have hlt : ∀ b, b < 5 → (T i b && F b) = true → mR T c (i + 1) (rm F b) < mR T c (i + 1) F := fun b hb q => by
        apply Nat.lt_of_not_le
        intro r
        exact hex ⟨b, hb, q, r⟩
      have hcol : ∀ k, k ≤ 5 → ∃ X, X < 16 ∧ hs X G ∧ hf T G F X ≤ mR T c (i + 1) F ∧ ∀ b, b < k → (T i b && F b) = true → nb T X b = true := fun k => by
        induction k with
        | zero => exact fun _ => ⟨X, hX, hsX, hle, fun b hb => by omega⟩
        | succ k ih =>
          intro hk
          obtain ⟨A, a1, a2, a3, a4⟩ := ih (by omega)
          by_cases q : (T i k && F k) = true
          · obtain ⟨B, c1, c2, c3⟩ := (h (rm F k)).2
            have hl := hlt k (by omega) q
            have hB1 := (h F).1 B c1 c2
            have hq2 : F k = true := by
              rw [Bool.and_eq_true] at q
              exact q.2
            have hnB : nb T B k = true := by
              cases e : nb T B k with
              | true => rfl
              | false =>
                have := rm_out (T := T) (F := F) (b := k) (X := B) (by omega) e
                unfold hf at c3 hB1
                omega
            have hB2 : hf T G F B ≤ mR T c (i + 1) F := by
              have := rm_in (T := T) (F := F) (b := k) (X := B) (by omega) hq2 hnB
              unfold hf at c3 ⊢
              omega
            refine ⟨A ||| B, Nat.or_lt_two_pow (n := 4) a1 c1, hs_or a2 c2, ?_, fun b hb r => ?_⟩
            · have h1 := hf_sub (T := T) (G := G) (F := F) A B
              have h2 := (h F).1 (A &&& B) (Nat.lt_of_le_of_lt Nat.and_le_left a1) (hs_and a2)
              omega
            · rw [nb_or]
              by_cases e : b = k
              · rw [e, hnB, Bool.or_true]
              · rw [a4 b (by omega) r]
                rfl
          · refine ⟨A, a1, a2, a3, fun b hb r => ?_⟩
            by_cases e : b = k
            · rw [e] at r
              exact absurd r q
            · exact a4 b (by omega) r
      obtain ⟨A, a1, a2, a3, a4⟩ := hcol 5 (by omega)
      refine ⟨A ||| 2 ^ i, (xr i hi A a1).2.1, fun p hp r => ?_, ?_⟩
      · rw [((xr i hi A a1).2.2 p hp).2, Bool.or_eq_true] at r
        unfold gi
        rcases r with r | r
        · rw [a2 p hp r]; rfl
        · rw [r, Bool.or_true]
      · rw [hf_in hi a1 hG]
        have h2 : pb_sum (fun b => bz1 (F b && (nb T A b || T i b))) 5 = hn5 T F A := by
          unfold hn5
          refine pb_sum_congr fun b hb => ?_
          have := a4 b hb
          revert this
          cases F b <;> cases nb T A b <;> cases T i b <;> simp
        have h3 := mR_0 (T := T) (F := F) c i
        unfold hf at a3
        omega
/-- who is asked for from i on -/
def gF (Sx P i : Nat) : Nat → Bool := fun p => Sx.testBit p && (decide (i ≤ p) && decide (p < P))
theorem IsH_congr {G' : Nat → Bool} {h : Nat} (hG : ∀ p, p < 4 → G p = G' p) (H : IsH T G F h) : IsH T G' F h := by
  have e : ∀ X, hf T G F X = hf T G' F X := fun X => by
    unfold hf hp4
    congr 1
    exact pb_sum_congr fun p hp => by rw [hG p hp]
  have e2 : ∀ X, hs X G ↔ hs X G' := fun X => ⟨fun q p hp r => by rw [← hG p hp]; exact q p hp r, fun q p hp r => by rw [hG p hp]; exact q p hp r⟩
  refine ⟨fun X hX q => ?_, ?_⟩
  · rw [← e]
    exact H.1 X hX ((e2 X).mpr q)
  · obtain ⟨X, h1, h2, h3⟩ := H.2
    exact ⟨X, h1, (e2 X).mp h2, by rw [← e]; exact h3⟩
theorem hall {Sx P : Nat} (hP : P ≤ 4) (hT : ∀ p b, Sx.testBit p = false → T p b = false) : ∀ (c i : Nat) (F : Nat → Bool), i + c = P → IsH T (gF Sx P i) F (mR T c i F)
  | 0, i, F, hi => by
    have e : ∀ p, gF Sx P i p = false := fun p => by
      unfold gF
      by_cases q : i ≤ p
      · have : ¬ p < P := by omega
        simp [this]
      · simp [q]
    refine ⟨fun X _ _ => Nat.zero_le _, 0, by omega, fun p _ q => ?_, ?_⟩
    · simp at q
    · have h1 : hp4 (gF Sx P i) 0 = 0 := by
        unfold hp4
        simp [e, bz1, pb_sum]
      have h2 : hn5 T F 0 = 0 := by
        unfold hn5 nb
        simp [bz1, pb_sum]
      unfold hf
      rw [h1, h2]
      exact Nat.le_refl _
  | c + 1, i, F, hi => by
    have ih := fun F => hall hP hT c (i + 1) F (by omega)
    by_cases q : Sx.testBit i = true
    · refine IsH_congr (fun p hp => ?_) (IsH_step (G := gF Sx P (i + 1)) (by omega) (by unfold gF; simp [show ¬ i + 1 ≤ i by omega]) ih)
      unfold gi gF
      by_cases e : p = i
      · subst e
        simp [q, show p < P by omega]
      · have e1 : (p == i) = false := by simpa using e
        rw [e1, Bool.or_false]
        by_cases e2 : i ≤ p
        · simp [e2, show i + 1 ≤ p by omega]
        · simp [e2, show ¬ i + 1 ≤ p by omega]
    · have hq : Sx.testBit i = false := by simpa using q
      have e : mR T (c + 1) i F = mR T c (i + 1) F := by
        rcases mR_c (T := T) (F := F) c i with e | ⟨b, -, r, -⟩
        · exact e
        · rw [hT i b hq] at r
          cases r
      rw [e]
      refine IsH_congr (fun p hp => ?_) (ih F)
      unfold gF
      by_cases e1 : p = i
      · subst e1
        simp [hq]
      · by_cases e2 : i ≤ p
        · simp [e2, show i + 1 ≤ p by omega]
        · simp [e2, show ¬ i + 1 ≤ p by omega]
end HALL
