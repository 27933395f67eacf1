/-! rings of debts -/
section RING
variable {a : pb_Vg} {M p : Nat}
def pb_fst (q : Nat → Bool) : Nat → Nat → Option Nat
  | 0, _ => none
  | c + 1, b => if q b = true then some b else pb_fst q c (b + 1)
theorem pb_fst_some {q : Nat → Bool} {x : Nat} : ∀ {c b : Nat}, pb_fst q c b = some x → b ≤ x ∧ x < b + c ∧ q x = true ∧ ∀ y, b ≤ y → y < x → q y = false
  | 0, _, h => by cases h
  | c + 1, b, h => by
    unfold pb_fst at h
    by_cases e : q b = true
    · rw [if_pos e] at h
      cases h
      exact ⟨Nat.le_refl _, by omega, e, fun y h1 h2 => by omega⟩
    · rw [if_neg e] at h
      obtain ⟨h1, h2, h3, h4⟩ := pb_fst_some h
      refine ⟨by omega, by omega, h3, fun y k1 k2 => ?_⟩
      by_cases e2 : y = b
      · rw [e2]; simpa using e
      · exact h4 y (by omega) k2
theorem pb_fst_none {q : Nat → Bool} : ∀ {c b : Nat}, pb_fst q c b = none → ∀ y, b ≤ y → y < b + c → q y = false
  | 0, _, _ => fun y h1 h2 => by omega
  | c + 1, b, h => by
    unfold pb_fst at h
    by_cases e : q b = true
    · rw [if_pos e] at h
      cases h
    · rw [if_neg e] at h
      intro y k1 k2
      by_cases e2 : y = b
      · rw [e2]; simpa using e
      · exact pb_fst_none h y (by omega) (by omega)
theorem pb_fst_eq {q : Nat → Bool} {c b x : Nat} (h1 : b ≤ x) (h2 : x < b + c) (h3 : q x = true) (h4 : ∀ y, b ≤ y → y < x → q y = false) : pb_fst q c b = some x := by
  cases h : pb_fst q c b with
  | none =>
    have := pb_fst_none h x h1 h2
    rw [h3] at this
    cases this
  | some y =>
    obtain ⟨k1, k2, k3, k4⟩ := pb_fst_some h
    rcases Nat.lt_trichotomy x y with e | e | e
    · have := k4 x h1 e
      rw [h3] at this
      cases this
    · rw [e]
    · have := h4 y k1 e
      rw [k3] at this
      cases this
theorem pb_fst_no {q : Nat → Bool} {c b : Nat} (h : ∀ y, b ≤ y → y < b + c → q y = false) : pb_fst q c b = none := by
  cases e : pb_fst q c b with
  | none => rfl
  | some y =>
    obtain ⟨k1, k2, k3, k4⟩ := pb_fst_some e
    rw [h y k1 k2] at k3
    cases k3
def rE (a : pb_Vg) (i j : Nat) : Bool := vDebt a i j != 0
def rgO (a : pb_Vg) (X i : Nat) : Bool := (pb_fst (fun j => X.testBit j && rE a i j) (vP a) 0).isSome
def rgC (a : pb_Vg) (X i : Nat) : Nat := (pb_fst (fun j => X.testBit j && rE a i j) (vP a) 0).getD i
def rgL (a : pb_Vg) (p : Nat) : Nat → Nat
  | 0 => 2 ^ p
  | k + 1 => pb_bits (rgO a (rgL a p k)) (vP a)
def rgM (a : pb_Vg) (p k : Nat) : Nat → Nat
  | 0 => p
  | i + 1 => rgC a (rgL a p (k - 1 - i)) (rgM a p k i)
theorem rE_of (hz : vOk M a) {i j : Nat} (hi : i < 4) (hj : j < 4) (h : rE a i j = true) : i < vP a ∧ j < vP a ∧ i ≠ j := by
  have := (hz.2.2.1 i j hi hj).2
  unfold rE at h
  simp at h
  refine ⟨?_, ?_, ?_⟩
  · exact Nat.lt_of_not_le fun q => h (this (Or.inl q))
  · exact Nat.lt_of_not_le fun q => h (this (Or.inr (Or.inl q)))
  · exact fun q => h (this (Or.inr (Or.inr q)))
theorem rgL_32 (hP : vP a ≤ 4) (hp : p < 4) (k : Nat) : rgL a p k < 32 := by
  cases k with
  | zero => exact Nat.lt_of_lt_of_le (Nat.pow_lt_pow_right (a := 2) (by decide) hp) (by decide)
  | succ k => exact pb_bits_32 _ (by omega)
theorem rgL_0 (i : Nat) : (rgL a p 0).testBit i = true ↔ i = p := by
  show (2 ^ p).testBit i = true ↔ i = p
  rw [Nat.testBit_two_pow]
  simp
  exact ⟨fun h => h.symm, fun h => h.symm⟩
theorem rgO_iff (X i : Nat) : rgO a X i = true ↔ ∃ j, j < vP a ∧ X.testBit j = true ∧ rE a i j = true := by
  unfold rgO
  constructor
  · intro h
    cases e : pb_fst (fun j => X.testBit j && rE a i j) (vP a) 0 with
    | none => rw [e] at h; cases h
    | some j =>
      obtain ⟨k1, k2, k3, -⟩ := pb_fst_some e
      simp at k3
      exact ⟨j, by omega, k3.1, k3.2⟩
  · rintro ⟨j, h1, h2, h3⟩
    cases e : pb_fst (fun j => X.testBit j && rE a i j) (vP a) 0 with
    | none =>
      have := pb_fst_none e j (by omega) (by omega)
      simp [h2, h3] at this
    | some j => rfl
theorem rgL_s (k i : Nat) : (rgL a p (k + 1)).testBit i = true ↔ i < vP a ∧ ∃ j, j < vP a ∧ (rgL a p k).testBit j = true ∧ rE a i j = true := by
  show (pb_bits (rgO a (rgL a p k)) (vP a)).testBit i = true ↔ _
  rw [pb_bits_test, Bool.and_eq_true, decide_eq_true_eq, rgO_iff]
/-- a walk of debts -/
theorem W1 (i : Nat) (h : (rgL a p 1).testBit i = true) : rE a i p = true := by
  obtain ⟨-, j, -, h2, h3⟩ := (rgL_s 0 i).mp h
  rw [rgL_0] at h2
  rwa [h2] at h3
theorem W1' (hz : vOk M a) (hp : p < 4) {i : Nat} (hi : i < 4) (h : rE a i p = true) : (rgL a p 1).testBit i = true := by
  obtain ⟨h1, h2, -⟩ := rE_of hz hi hp h
  exact (rgL_s 0 i).mpr ⟨h1, p, h2, (rgL_0 p).mpr rfl, h⟩
theorem Ws (hz : vOk M a) {k i j : Nat} (hi : i < 4) (hj : j < 4) (h : (rgL a p k).testBit j = true) (he : rE a i j = true) : (rgL a p (k + 1)).testBit i = true := by
  obtain ⟨h1, h2, -⟩ := rE_of hz hi hj he
  exact (rgL_s k i).mpr ⟨h1, j, h2, h, he⟩
theorem rgC_of (hP : vP a ≤ 4) {k i : Nat} (h : (rgL a p (k + 1)).testBit i = true) : rgC a (rgL a p k) i < vP a ∧ (rgL a p k).testBit (rgC a (rgL a p k) i) = true ∧ rE a i (rgC a (rgL a p k) i) = true ∧ ∀ j, j < vP a → (rgL a p k).testBit j = true → rE a i j = true → rgC a (rgL a p k) i ≤ j := by
  obtain ⟨-, j0, hj0, h1, h2⟩ := (rgL_s k i).mp h
  unfold rgC
  cases e : pb_fst (fun j => (rgL a p k).testBit j && rE a i j) (vP a) 0 with
  | none =>
    have := pb_fst_none e j0 (by omega) (by omega)
    simp [h1, h2] at this
  | some x =>
    obtain ⟨k1, k2, k3, k4⟩ := pb_fst_some e
    simp only [Bool.and_eq_true] at k3
    refine ⟨by show x < _; omega, k3.1, k3.2, fun j q1 q2 q3 => ?_⟩
    apply Nat.le_of_not_lt
    intro q
    have := k4 j (by omega) q
    simp [q2, q3] at this
theorem rgC_lt (hP : vP a ≤ 4) {X i : Nat} (hi : i < vP a) : rgC a X i < vP a := by
  unfold rgC
  cases e : pb_fst (fun j => X.testBit j && rE a i j) (vP a) 0 with
  | none => exact hi
  | some x =>
    obtain ⟨-, k2, -, -⟩ := pb_fst_some e
    show x < _
    omega
theorem rgM_lt (hP : vP a ≤ 4) (hp : p < vP a) (k : Nat) : ∀ i, rgM a p k i < vP a
  | 0 => hp
  | i + 1 => rgC_lt hP (rgM_lt hP hp k i)
/-- the walk that the class follows -/
theorem rgM_W (hP : vP a ≤ 4) {k : Nat} (h : (rgL a p k).testBit p = true) : ∀ i, i < k → (rgL a p (k - i)).testBit (rgM a p k i) = true
  | 0, _ => h
  | i + 1, hi => by
    have h1 := rgM_W hP h i (by omega)
    rw [show k - i = (k - 1 - i) + 1 by omega] at h1
    have := (rgC_of hP h1).2.1
    rw [show k - (i + 1) = k - 1 - i by omega]
    exact this
theorem rgM_E (hP : vP a ≤ 4) {k : Nat} (h : (rgL a p k).testBit p = true) {i : Nat} (hi : i < k) : rE a (rgM a p k i) (rgM a p k (i + 1)) = true := by
  have h1 := rgM_W hP h i hi
  rw [show k - i = (k - 1 - i) + 1 by omega] at h1
  exact (rgC_of hP h1).2.2.1
theorem rgM_le (hP : vP a ≤ 4) {k : Nat} (h : (rgL a p k).testBit p = true) {i : Nat} (hi : i < k) {j : Nat} (hj : j < vP a) (h2 : (rgL a p (k - 1 - i)).testBit j = true) (h3 : rE a (rgM a p k i) j = true) : rgM a p k (i + 1) ≤ j := by
  have h1 := rgM_W hP h i hi
  rw [show k - i = (k - 1 - i) + 1 by omega] at h1
  exact (rgC_of hP h1).2.2.2 j hj h2 h3
theorem rgM_end (hP : vP a ≤ 4) {k : Nat} (hk : 0 < k) (h : (rgL a p k).testBit p = true) : rE a (rgM a p k (k - 1)) p = true := by
  have h1 := rgM_W hP h (k - 1) (by omega)
  rw [show k - (k - 1) = 1 by omega] at h1
  exact W1 _ h1
/-- what the reference looks for: figures g 0 .. g (n - 1), each a person and 1; the last one owes p -/
def rgN (p n : Nat) (g : Nat → Nat) (k : Nat) : Nat := if k = n - 1 then p + 1 else g (k + 1)
def rgS (a : pb_Vg) (p n : Nat) (g : Nat → Nat) : Nat → Nat → Nat → Nat → Option Nat
  | 0, _, _, least => some least
  | c + 1, k, met, least => if ((1 ≤ g k ∧ g k ≤ vP a) ∧ (1 ≤ rgN p n g k ∧ rgN p n g k ≤ vP a)) ∧ met.testBit (g k - 1) = false ∧ vDebt a (g k - 1) (rgN p n g k - 1) ≠ 0 then rgS a p n g c (k + 1) (met ||| 2 ^ (g k - 1)) (min least (vDebt a (g k - 1) (rgN p n g k - 1))) else none
theorem rgS_of {n : Nat} {g : Nat → Nat} : ∀ {c k met least : Nat}, (rgS a p n g c k met least).isSome = true → ∀ i, k ≤ i → i < k + c → 1 ≤ g i ∧ g i ≤ vP a ∧ 1 ≤ rgN p n g i ∧ rgN p n g i ≤ vP a ∧ rE a (g i - 1) (rgN p n g i - 1) = true
  | 0, k, met, least, _ => fun i h1 h2 => by omega
  | c + 1, k, met, least, h => fun i h1 h2 => by
    unfold rgS at h
    by_cases e : ((1 ≤ g k ∧ g k ≤ vP a) ∧ (1 ≤ rgN p n g k ∧ rgN p n g k ≤ vP a)) ∧ met.testBit (g k - 1) = false ∧ vDebt a (g k - 1) (rgN p n g k - 1) ≠ 0
    · rw [if_pos e] at h
      by_cases e2 : i = k
      · subst e2
        exact ⟨e.1.1.1, e.1.1.2, e.1.2.1, e.1.2.2, by unfold rE; simpa using e.2.2⟩
      · exact rgS_of h i (by omega) (by omega)
    · rw [if_neg e] at h
      cases h
theorem rgS_to {n : Nat} {g : Nat → Nat} : ∀ {c k met least : Nat}, (∀ i, k ≤ i → i < k + c → 1 ≤ g i ∧ g i ≤ vP a ∧ 1 ≤ rgN p n g i ∧ rgN p n g i ≤ vP a ∧ rE a (g i - 1) (rgN p n g i - 1) = true) → (∀ i, k ≤ i → i < k + c → met.testBit (g i - 1) = false) → (∀ i j, k ≤ i → i < j → j < k + c → g i ≠ g j) → rgS a p n g c k met least = some (pb_it (fun i v => min v (vDebt a (g i - 1) (rgN p n g i - 1))) c k least)
  | 0, k, met, least, _, _, _ => rfl
  | c + 1, k, met, least, h1, h2, h3 => by
    obtain ⟨q1, q2, q3, q4, q5⟩ := h1 k (by omega) (by omega)
    unfold rgS
    rw [if_pos ⟨⟨⟨q1, q2⟩, q3, q4⟩, h2 k (by omega) (by omega), by unfold rE at q5; simpa using q5⟩]
    refine rgS_to (fun i r1 r2 => h1 i (by omega) (by omega)) (fun i r1 r2 => ?_) (fun i j r1 r2 r3 => h3 i j (by omega) r2 (by omega))
    have r4 := h3 k i (by omega) (by omega) (by omega)
    have r5 := (h1 i (by omega) (by omega)).1
    rw [Nat.testBit_or, h2 i (by omega) (by omega), Nat.testBit_two_pow, Bool.false_or]
    simp
    omega
def rgG (n x k : Nat) : Nat := x / 10 ^ (n - 1 - k) % 10
def rgQ (a : pb_Vg) (p n x : Nat) : Option Nat := rgS a p n (rgG n x) n 0 0 100
def rgI (n p : Nat) (x : Nat) : Prop := (p + 1) * 10 ^ (n - 1) ≤ x ∧ x < (p + 1) * 10 ^ (n - 1) + 10 ^ (n - 1)
theorem rgG2 {x : Nat} (hp : p < 4) (h : rgI 2 p x) : rgG 2 x 0 = p + 1 ∧ x = 10 * (p + 1) + rgG 2 x 1 ∧ rgG 2 x 1 < 10 := by
  unfold rgI at h
  unfold rgG
  simp only [show (2 - 1 - 0 : Nat) = 1 from rfl, show (2 - 1 - 1 : Nat) = 0 from rfl, show (2 - 1 : Nat) = 1 from rfl, Nat.pow_zero, Nat.pow_one, Nat.div_one] at *
  omega
theorem rgG3 {x : Nat} (hp : p < 4) (h : rgI 3 p x) : rgG 3 x 0 = p + 1 ∧ x = 100 * (p + 1) + 10 * rgG 3 x 1 + rgG 3 x 2 ∧ rgG 3 x 1 < 10 ∧ rgG 3 x 2 < 10 := by
  unfold rgI at h
  unfold rgG
  simp only [show (3 - 1 - 0 : Nat) = 2 from rfl, show (3 - 1 - 1 : Nat) = 1 from rfl, show (3 - 1 - 2 : Nat) = 0 from rfl, show (3 - 1 : Nat) = 2 from rfl, show (10 : Nat) ^ 2 = 100 from rfl, Nat.pow_zero, Nat.pow_one, Nat.div_one] at *
  omega
theorem rgG4 {x : Nat} (hp : p < 4) (h : rgI 4 p x) : rgG 4 x 0 = p + 1 ∧ x = 1000 * (p + 1) + 100 * rgG 4 x 1 + 10 * rgG 4 x 2 + rgG 4 x 3 ∧ rgG 4 x 1 < 10 ∧ rgG 4 x 2 < 10 ∧ rgG 4 x 3 < 10 := by
  unfold rgI at h
  unfold rgG
  simp only [show (4 - 1 - 0 : Nat) = 3 from rfl, show (4 - 1 - 1 : Nat) = 2 from rfl, show (4 - 1 - 2 : Nat) = 1 from rfl, show (4 - 1 - 3 : Nat) = 0 from rfl, show (4 - 1 : Nat) = 3 from rfl, show (10 : Nat) ^ 2 = 100 from rfl, show (10 : Nat) ^ 3 = 1000 from rfl, Nat.pow_zero, Nat.pow_one, Nat.div_one] at *
  omega
end RING
