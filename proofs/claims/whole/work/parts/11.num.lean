/-! numbers: conditions and sums of small ones; side conditions are for omega -/
theorem lz (k : Nat) : (OfNat.ofNat k : Int32) = nI (OfNat.ofNat k : Nat) := Eq.trans (b := Int32.ofNat k) rfl rfl
theorem q_eq {x y : Nat} (hx : x < 2000000000) (hy : y < 2000000000) : (nI x = nI y) = (x = y) := propext (nI_eq (by omega) (by omega))
theorem q_lt {x y : Nat} (hx : x < 2000000000) (hy : y < 2000000000) : (nI x < nI y) = (x < y) := propext (nI_ltI (by omega) (by omega))
theorem q_le {x y : Nat} (hx : x < 2000000000) (hy : y < 2000000000) : (nI x ≤ nI y) = (x ≤ y) := propext (nI_leI (by omega) (by omega))
theorem q_add {x y : Nat} : nI x + nI y = nI (x + y) := nI_add x y
theorem q_mul {x y : Nat} : nI x * nI y = nI (x * y) := pk_mul x y
theorem q_sub {x y : Nat} (h : y ≤ x) : nI x - nI y = nI (x - y) := pk_sub h
theorem q_cl {x : Nat} (h : x < 2000000000) : (nI x).toNatClampNeg = x := nI_clamp (by omega)
theorem q_in {x n : Nat} (h : x < n) (hn : n < 2000000000) : pb_in (nI x) n = true := by
  rw [pb_in_nI (by omega)]
  simpa using h
theorem q_9 {x : Nat} (h : x < 2000000000) : (nI x = (-nI 9)) = False := eq_false (nI_ne9 (by omega))
theorem q_n9 : (-9 : Int32) = -nI 9 := rfl
theorem q_div {x y : Nat} (hx : x < 2000000000) (h0 : 0 < y) (hy : y < 2000000000) : nI x / nI y = nI (x / y) := pk_div (by omega) h0 (by omega)
theorem q_rem {x y : Nat} (hx : x < 2000000000) (h0 : 0 < y) (hy : y < 2000000000) : pb_rem (nI x) (nI y) = nI (x % y) := pk_rem (by omega) h0 (by omega)
theorem q_b10 {c : Prop} [Decidable c] : (nI (if c then 1 else 0) = nI 0) = ¬ c := by
  by_cases h : c
  · simp [h]; decide
  · simp [h]
theorem q_b01 {c : Prop} [Decidable c] : (nI (if c then 0 else 1) = nI 0) = c := by
  by_cases h : c
  · simp [h]
  · simp [h]; decide
theorem q_and {a b : Nat} : nI a &&& nI b = nI (a &&& b) := by
  apply Int32.toBitVec_inj.1
  show BitVec.ofNat 32 a &&& BitVec.ofNat 32 b = BitVec.ofNat 32 (a &&& b)
  apply BitVec.eq_of_getLsbD_eq
  intro i hi
  simp [hi]
theorem q_or {a b : Nat} : nI a ||| nI b = nI (a ||| b) := by
  apply Int32.toBitVec_inj.1
  show BitVec.ofNat 32 a ||| BitVec.ofNat 32 b = BitVec.ofNat 32 (a ||| b)
  apply BitVec.eq_of_getLsbD_eq
  intro i hi
  simp [hi]
theorem q_xor {a b : Nat} : nI a ^^^ nI b = nI (a ^^^ b) := by
  apply Int32.toBitVec_inj.1
  show BitVec.ofNat 32 a ^^^ BitVec.ofNat 32 b = BitVec.ofNat 32 (a ^^^ b)
  apply BitVec.eq_of_getLsbD_eq
  intro i hi
  simp [hi]
theorem q_bit {b : Nat} (hb : b < 31) : nI 1 <<< (nI b &&& nI 31) = nI (2 ^ b) := (by decide +kernel : ∀ b, b < 31 → nI 1 <<< (nI b &&& nI 31) = nI (2 ^ b)) b hb
theorem q_bit2 {b : Nat} (hb : b < 30) : nI 2 <<< (nI b &&& nI 31) = nI (2 ^ (b + 1)) := (by decide +kernel : ∀ b, b < 30 → nI 2 <<< (nI b &&& nI 31) = nI (2 ^ (b + 1))) b hb
theorem q_shm : ∀ b, b < 31 → ((nI b &&& nI 31).toBitVec.smod 32).toNat = b := by decide +kernel
theorem q_shr {x b : Nat} (hx : x < 2000000000) (hb : b < 31) : nI x >>> (nI b &&& nI 31) = nI (x / 2 ^ b) := pk_shrN (by omega) (nI b &&& nI 31) b (q_shm b hb)
theorem q_has {x b : Nat} : (x / 2 ^ b) &&& 1 = if x.testBit b then 1 else 0 := by
  rw [← Nat.shiftRight_eq_div_pow, Nat.testBit, Nat.and_comm]
  have h : 1 &&& (x >>> b) = (x >>> b) % 2 := by rw [Nat.and_comm]; exact Nat.and_one_is_mod _
  rw [h]
  rcases Nat.mod_two_eq_zero_or_one (x >>> b) with e | e <;> simp [e]
/-! loops: F n b s, the loop's head at its b-th turn with n of fuel left, goes on to b + 1 with f b s, and out at e -/
theorem lp_it {σ γ : Type} (F : Nat → Nat → σ → γ) (f : Nat → σ → σ) (I : Nat → σ → Prop) (e : Nat) (k : σ → γ) (h0 : ∀ n s, I e s → F (n + 1) e s = k s) (hs : ∀ n b s, b < e → I b s → F (n + 1) b s = F n (b + 1) (f b s) ∧ I (b + 1) (f b s)) : ∀ (c b n : Nat) (s : σ), b + c = e → c < n → I b s → F n b s = k (pb_it f c b s) ∧ I e (pb_it f c b s)
  | 0, b, n, s, hb, hn, hI => by
    cases n with
    | zero => omega
    | succ n =>
      rw [Nat.add_zero] at hb
      subst hb
      exact ⟨h0 n s hI, hI⟩
  | c + 1, b, n, s, hb, hn, hI => by
    cases n with
    | zero => omega
    | succ n =>
      obtain ⟨h1, h2⟩ := hs n b s (by omega) hI
      rw [h1]
      exact lp_it F f I e k h0 hs c (b + 1) n (f b s) (by omega) (by omega) h2
theorem pb_F_eq : pb_F = 4999 + 1 := rfl
/-- the set of the b below n with q b -/
def pb_bits (q : Nat → Bool) : Nat → Nat
  | 0 => 0
  | n + 1 => pb_bits q n ||| (if q n then 2 ^ n else 0)
theorem pb_bits_lt (q : Nat → Bool) : ∀ n, pb_bits q n < 2 ^ n
  | 0 => by simp [pb_bits]
  | n + 1 => by
    have h := pb_bits_lt q n
    unfold pb_bits
    apply Nat.or_lt_two_pow
    · exact Nat.lt_of_lt_of_le h (Nat.pow_le_pow_right (by decide) (by omega))
    · split
      · exact Nat.pow_lt_pow_right (by decide) (by omega)
      · exact Nat.two_pow_pos _
theorem pb_bits_test (q : Nat → Bool) (k : Nat) : ∀ n, (pb_bits q n).testBit k = (decide (k < n) && q k)
  | 0 => by simp [pb_bits]
  | n + 1 => by
    unfold pb_bits
    rw [Nat.testBit_or, pb_bits_test q k n]
    by_cases h : k = n
    · subst h
      cases hq : q k <;> simp [hq]
    · have h2 : (if q n = true then 2 ^ n else 0).testBit k = false := by
        split
        · rw [Nat.testBit_two_pow]; simp; omega
        · simp
      rw [h2, Bool.or_false]
      by_cases h3 : k < n
      · simp [h3, show k < n + 1 by omega]
      · simp [h3, show ¬ k < n + 1 by omega]
theorem pb_bits_congr {q q' : Nat → Bool} : ∀ {n : Nat}, (∀ b, b < n → q b = q' b) → pb_bits q n = pb_bits q' n
  | 0, _ => rfl
  | n + 1, h => by
    unfold pb_bits
    rw [pb_bits_congr (fun b hb => h b (by omega)), h n (by omega)]
theorem pb_it_bits (q : Nat → Bool) : ∀ c b, pb_it (fun b s => s ||| (if q b then 2 ^ b else 0)) c b (pb_bits q b) = pb_bits q (b + c)
  | 0, b => rfl
  | c + 1, b => by
    unfold pb_it
    have := pb_it_bits q c (b + 1)
    rw [show b + (c + 1) = b + 1 + c by omega, ← this]
    rfl
/-- the sum of q b for the b below n -/
def pb_sum (q : Nat → Nat) : Nat → Nat
  | 0 => 0
  | n + 1 => pb_sum q n + q n
theorem pb_it_sum (q : Nat → Nat) : ∀ c b, pb_it (fun b s => s + q b) c b (pb_sum q b) = pb_sum q (b + c)
  | 0, b => rfl
  | c + 1, b => by
    unfold pb_it
    have := pb_it_sum q c (b + 1)
    rw [show b + (c + 1) = b + 1 + c by omega, ← this]
    rfl
theorem pb_sum_le {q : Nat → Nat} {m : Nat} : ∀ {n : Nat}, (∀ b, b < n → q b ≤ m) → pb_sum q n ≤ n * m
  | 0, _ => by simp [pb_sum]
  | n + 1, h => by
    unfold pb_sum
    have h1 := pb_sum_le (q := q) (m := m) (n := n) (fun b hb => h b (by omega))
    have h2 := h n (by omega)
    rw [Nat.add_mul]
    omega
theorem pb_sum_congr {q q' : Nat → Nat} : ∀ {n : Nat}, (∀ b, b < n → q b = q' b) → pb_sum q n = pb_sum q' n
  | 0, _ => rfl
  | n + 1, h => by
    unfold pb_sum
    rw [pb_sum_congr (fun b hb => h b (by omega)), h n (by omega)]
theorem lp_bits {γ : Type} (F : Nat → Nat → Nat → γ) (q : Nat → Bool) (e : Nat) (k : Nat → γ) (h0 : ∀ n s, F (n + 1) e s = k s) (hs : ∀ n b s, b < e → F (n + 1) b s = F n (b + 1) (s ||| (if q b then 2 ^ b else 0))) (n : Nat) (hn : e < n) : F n 0 0 = k (pb_bits q e) := by
  have h := (lp_it F (fun b s => s ||| (if q b then 2 ^ b else 0)) (fun _ _ => True) e k (fun n s _ => h0 n s) (fun n b s hb _ => ⟨hs n b s hb, trivial⟩) e 0 n 0 (by omega) hn trivial).1
  rw [h]
  exact congrArg k ((pb_it_bits q e 0).trans (by rw [Nat.zero_add]))
theorem lp_sum {γ : Type} (F : Nat → Nat → Nat → γ) (q : Nat → Nat) (e : Nat) (k : Nat → γ) (h0 : ∀ n s, F (n + 1) e s = k s) (hs : ∀ n b s, b < e → F (n + 1) b s = F n (b + 1) (s + q b)) (n : Nat) (hn : e < n) : F n 0 0 = k (pb_sum q e) := by
  have h := (lp_it F (fun b s => s + q b) (fun _ _ => True) e k (fun n s _ => h0 n s) (fun n b s hb _ => ⟨hs n b s hb, trivial⟩) e 0 n 0 (by omega) hn trivial).1
  rw [h]
  exact congrArg k ((pb_it_sum q e 0).trans (by rw [Nat.zero_add]))
theorem pb_Fgt {e : Nat} (h : e < 5000) : e < pb_F := h
theorem q_tb {x b : Nat} (hx : x < 2000000000) (hb : b < 31) : (nI x >>> (nI b &&& nI 31)) &&& nI 1 = nI (if x.testBit b then 1 else 0) := by
  rw [q_shr hx hb, q_and, q_has]
theorem pb_bits_32 (q : Nat → Bool) {n : Nat} (hn : n ≤ 5) : pb_bits q n < 32 := Nat.lt_of_lt_of_le (pb_bits_lt q n) (Nat.pow_le_pow_right (i := n) (j := 5) (by decide) hn)
