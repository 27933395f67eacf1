section MATCH
variable {K : Nat} {S : pb_S} {μ : pb_M} {a : pb_Vg} {M : Nat} {T : Nat → Nat → Bool}
def tA (a : pb_Vg) (p b : Nat) : Bool := decide (p < vP a) && (vTak a p).testBit b
def tS2 (a : pb_Vg) (s p b : Nat) : Bool := s.testBit p && tA a p b
theorem any4 (hP : vP a ≤ 4) {s : Nat} (hs : s < 2 ^ vP a) : pb_it (vAnyS a s) (vP a) 0 0 = pb_it (vAnyS a s) 4 0 0 := by
  rw [show (4 : Nat) = vP a + (4 - vP a) by omega, pb_it_add]
  symm
  apply pb_it_idle
  intro e z h1 h2
  unfold vAnyS
  rw [Nat.testBit_lt_two_pow (Nat.lt_of_lt_of_le hs (Nat.pow_le_pow_right (by decide) (by omega)))]
  simp
theorem any_nb (hP : vP a ≤ 4) {s : Nat} (hs : s < 2 ^ vP a) (hT : ∀ p, p < 4 → s.testBit p = true → ∀ b, b < 5 → T p b = (vTak a p).testBit b) {b : Nat} (hb : b < 5) : (pb_it (vAnyS a s) (vP a) 0 0).testBit b = nb T s b := by
  rw [any4 hP hs]
  show ((((0 ||| _) ||| _) ||| _) ||| _ : Nat).testBit b = _
  have e : ∀ p, p < 4 → (if s.testBit p = true then vTak a p else 0).testBit b = (s.testBit p && T p b) := fun p hp => by
    by_cases q : s.testBit p = true
    · rw [if_pos q, hT p hp q b hb, q, Bool.true_and]
    · have q' : s.testBit p = false := by simpa using q
      rw [if_neg q, q', Bool.false_and]
      simp
  rw [Nat.testBit_or, Nat.testBit_or, Nat.testBit_or, Nat.testBit_or, e 0 (by omega), e (0 + 1) (by omega), e (0 + 1 + 1) (by omega), e (0 + 1 + 1 + 1) (by omega)]
  unfold nb
  simp only [Nat.zero_testBit, Bool.false_or, Nat.zero_add, Nat.reduceAdd, Bool.or_assoc]
theorem mx_tab : ∀ v, v < 6 → ∀ x, x < 6 → ∀ y, y < 6 → (if nI v < nI x - nI y then nI x - nI y else nI v) = nI (max v (x - y)) := by decide +kernel
theorem hp_tab : ∀ g, g < 16 → ∀ x, x < 16 → x &&& g = x → hp4 g.testBit x + pb_pc x = pb_pc g := by decide +kernel
theorem sub_of {g x : Nat} (h : x &&& g = x) : hs x g.testBit := fun p _ q => by
  rw [← h, Nat.testBit_and, Bool.and_eq_true] at q
  exact q.2
theorem sub_tab : ∀ g, g < 16 → ∀ x, x < 16 → (∀ p, p < 4 → x.testBit p = true → g.testBit p = true) → x &&& g = x ∧ x ≤ g := by decide +kernel
def mW (a : pb_Vg) (f x : Nat) : Nat := pb_pc x - pb_pc (pb_it (vAnyS a x) (vP a) 0 0 &&& f)
def mQ (g x : Nat) : Bool := x &&& g == x
theorem mL_le (a : pb_Vg) (g f c b v : Nat) (hv : v ≤ 5) : pb_it (fm (mQ g) (mW a f)) c b v ≤ 5 := by
  rcases fm_or (mQ g) (mW a f) c b v with h | ⟨e, -, -, -, h⟩
  · omega
  · rw [h]
    unfold mW
    have := pb_pc_lt e
    omega
theorem c_mostOf (hl : pb_LK μ a) (hP : vP a ≤ 4) (hB : vB a ≤ 5) {g f h : Nat} (hg : g < 2 ^ vP a) (hff : f < 32) (hT : ∀ p, p < 4 → g.testBit p = true → ∀ b, b < 5 → T p b = (vTak a p).testBit b) (H : IsH T g.testBit f.testBit h) : pX2_mostOf (nI g) (nI f) μ = some (nI h, μ) := by
  have h16 : g < 16 := Nat.lt_of_lt_of_le hg (Nat.pow_le_pow_right (n := 2) (i := vP a) (j := 4) (by decide) hP)
  have hpg := pb_pc_lt g
  unfold pX2_mostOf
  have hL : ∀ Kc : Int32 → pb_M → Option (Int32 × pb_M), pX2_mostOf_L5 (nI g) (nI f) Kc pb_F (nI 0) (nI 0) μ = Kc (nI (pb_it (fm (mQ g) (mW a f)) (g + 1) 0 0)) μ := fun Kc => by
    refine (lp_it (fun n b (s : Nat) => pX2_mostOf_L5 (nI g) (nI f) Kc n (nI s) (nI b) μ) (fm (mQ g) (mW a f)) (fun _ s => s ≤ 5) (g + 1) (fun s => Kc (nI s) μ) (fun n s _ => ?_) (fun n b s hb hs => ⟨?_, ?_⟩) (g + 1) 0 pb_F 0 (by omega) (pb_Fgt (by omega)) (by omega)).1
    · show pX2_mostOf_L5 _ _ _ _ _ _ _ = _
      rw [pX2_mostOf_L5, if_pos ((nI_ltI (by omega) (by omega)).mpr (by omega))]
    · show pX2_mostOf_L5 _ _ _ (n + 1) _ _ _ = pX2_mostOf_L5 _ _ _ _ _ _ _
      have hq := sub32 b (by omega) g (by omega)
      have n1 : nI b + (1 : Int32) = nI (b + 1) := nI_add b 1
      rw [pX2_mostOf_L5, if_neg (fun z => (show ¬ g < b by omega) ((nI_ltI (by omega) (by omega)).mp z)), n1]
      have h1 := pb_pc_lt b
      have h2 := pb_pc_lt (pb_it (vAnyS a b) (vP a) 0 0 &&& f)
      have ha := vAnyS_32 (a := a) (s := b) hB (vP a) 0 0 (by omega)
      have haf : pb_it (vAnyS a b) (vP a) 0 0 &&& f < 32 := Nat.lt_of_le_of_lt Nat.and_le_left ha
      unfold fm mQ
      by_cases e : b &&& g = b
      · rw [if_pos (hq.mpr e), c_anyS hl hP (by omega), pb_b_some, q_and, c_bits haf, pb_b_some, c_bits (by omega), pb_b_some, mx_tab s (by omega) _ (by omega) _ (by omega), if_pos (by simpa using e)]
        rfl
      · rw [if_neg (fun z => e (hq.mp z)), if_neg (by simpa using e)]
    · show fm (mQ g) (mW a f) b s ≤ 5
      exact mL_le a g f 1 b s hs
  refine (hL _).trans ?_
  rw [c_bits (by omega), pb_b_some]
  have hval : ∀ x, x < 16 → x &&& g = x → IsH T g.testBit f.testBit h → hp4 g.testBit x + pb_pc x = pb_pc g ∧ hn5 T f.testBit x = pb_pc (pb_it (vAnyS a x) (vP a) 0 0 &&& f) := fun x hx hxg _ => by
    refine ⟨hp_tab g h16 x hx hxg, ?_⟩
    have hxle : x ≤ g := (sub_tab g h16 x hx (fun p hp => sub_of hxg p hp)).2
    unfold hn5 pb_pc
    refine pb_sum_congr fun b hb => ?_
    rw [Nat.testBit_and, any_nb hP (Nat.lt_of_le_of_lt hxle hg) (fun p hp q => hT p hp (sub_of hxg p hp q)) hb, Bool.and_comm]
    rfl
  have hup : pb_it (fm (mQ g) (mW a f)) (g + 1) 0 0 ≤ pb_pc g - h := by
    rcases fm_or (mQ g) (mW a f) (g + 1) 0 0 with e | ⟨x, -, hx, hq, e⟩
    · omega
    · rw [e]
      have hxg : x &&& g = x := by unfold mQ at hq; simpa using hq
      obtain ⟨v1, v2⟩ := hval x (by omega) hxg H
      have := H.1 x (by omega) (sub_of hxg)
      unfold hf at this
      unfold mW
      omega
  have hdn : pb_pc g ≤ pb_it (fm (mQ g) (mW a f)) (g + 1) 0 0 + h := by
    obtain ⟨x, hx, hxs, hle⟩ := H.2
    obtain ⟨hxg, hxle⟩ := sub_tab g h16 x hx (fun p hp => hxs p hp)
    obtain ⟨v1, v2⟩ := hval x hx hxg H
    have := fm_mem (mQ g) (mW a f) (e := x) (by unfold mQ; simpa using hxg) (g + 1) 0 0 (by omega) (by omega)
    unfold hf at hle
    rw [show mW a f x = pb_pc x - pb_pc (pb_it (vAnyS a x) (vP a) 0 0 &&& f) from rfl] at this
    omega
  have hh : h ≤ pb_pc g := by
    have h0 := H.1 0 (by omega) (fun p _ q => by simp at q)
    obtain ⟨v1, v2⟩ := hval 0 (by omega) (by simp) H
    have e0 : hn5 T f.testBit 0 = 0 := by
      unfold hn5 nb
      simp [bz1, pb_sum]
    unfold hf at h0
    omega
  rw [pk_sub (by omega)]
  have : pb_pc g - pb_it (fm (mQ g) (mW a f)) (g + 1) 0 0 = h := by omega
  rw [this]
theorem IsH_T {T' : Nat → Nat → Bool} {G F : Nat → Bool} {h : Nat} (hT : ∀ p, p < 4 → G p = true → ∀ b, T p b = T' p b) (H : IsH T G F h) : IsH T' G F h := by
  have e : ∀ X, hs X G → hf T G F X = hf T' G F X := fun X hX => by
    unfold hf hn5
    congr 1
    refine pb_sum_congr fun b _ => ?_
    have e2 : ∀ p, p < 4 → (X.testBit p && T p b) = (X.testBit p && T' p b) := fun p hp => by
      by_cases q : X.testBit p = true
      · rw [hT p hp (hX p hp q) b]
      · have q' : X.testBit p = false := by simpa using q
        rw [q', Bool.false_and, Bool.false_and]
    unfold nb
    rw [e2 0 (by omega), e2 1 (by omega), e2 2 (by omega), e2 3 (by omega)]
  refine ⟨fun X hX q => ?_, ?_⟩
  · rw [← e X q]
    exact H.1 X hX q
  · obtain ⟨X, h1, h2, h3⟩ := H.2
    exact ⟨X, h1, h2, by rw [← e X h2]; exact h3⟩
/-- the number for a set of people, all beasts free -/
def mA (a : pb_Vg) (s : Nat) : Nat := mR (tS2 a s) (vP a) 0 (fF 0)
theorem mA_H (hP : vP a ≤ 4) {s : Nat} (hs : s < 2 ^ vP a) : IsH (tA a) s.testBit (31 : Nat).testBit (mA a s) := by
  have h := hall (T := tS2 a s) (Sx := s) hP (fun p b q => by unfold tS2; rw [q, Bool.false_and]) (vP a) 0 (fF 0) (by omega)
  have h2 : IsH (tS2 a s) s.testBit (fF 0) (mA a s) := IsH_congr (fun p hp => by
    unfold gF
    by_cases q : p < vP a
    · simp [q]
    · rw [Nat.testBit_lt_two_pow (Nat.lt_of_lt_of_le hs (Nat.pow_le_pow_right (by decide) (by omega)))]
      simp) h
  have h3 : IsH (tA a) s.testBit (fF 0) (mA a s) := IsH_T (fun p _ q b => by unfold tS2; rw [q, Bool.true_and]) h2
  have e : ∀ X, hf (tA a) s.testBit (fF 0) X = hf (tA a) s.testBit (31 : Nat).testBit X := fun X => by
    unfold hf
    refine congrArg (hp4 s.testBit X + ·) ?_
    unfold hn5
    refine pb_sum_congr fun b hb => ?_
    have : fF 0 b = (31 : Nat).testBit b := by
      unfold fF
      rw [Nat.zero_testBit]
      exact ((by decide : ∀ b, b < 5 → (31 : Nat).testBit b = true) b hb).symm
    rw [this]
  refine ⟨fun X hX q => ?_, ?_⟩
  · rw [← e]
    exact h3.1 X hX q
  · obtain ⟨X, x1, x2, x3⟩ := h3.2
    exact ⟨X, x1, x2, by rw [← e]; exact x3⟩
theorem tA_at {p b : Nat} (hp : p < vP a) : tA a p b = (vTak a p).testBit b := by
  unfold tA
  simp [hp]
theorem c_mA (hl : pb_LK μ a) (hP : vP a ≤ 4) (hB : vB a ≤ 5) {s : Nat} (hs : s < 2 ^ vP a) : pX2_mostOf (nI s) (31 : Int32) μ = some (nI (mA a s), μ) :=
  c_mostOf (f := 31) hl hP hB hs (by omega) (fun p hp q b hb => tA_at (by
    apply Nat.lt_of_not_le
    intro r
    rw [Nat.testBit_lt_two_pow (Nat.lt_of_lt_of_le hs (Nat.pow_le_pow_right (by decide) r))] at q
    cases q)) (mA_H hP hs)
/-- one more person makes it one more at most -/
theorem mA_step (hP : vP a ≤ 4) {s p : Nat} (hs0 : s < 2 ^ vP a) (hp : p < vP a) (hsp : s.testBit p = false) : mA a s ≤ mA a (s ||| 2 ^ p) ∧ mA a (s ||| 2 ^ p) ≤ mA a s + 1 := by
  have h16 : s < 16 := Nat.lt_of_lt_of_le hs0 (Nat.pow_le_pow_right (n := 2) (i := vP a) (j := 4) (by decide) hP)
  have hs2 : s ||| 2 ^ p < 2 ^ vP a := Nat.or_lt_two_pow hs0 (Nat.pow_lt_pow_right (by decide) hp)
  have H1 := mA_H hP hs0
  have H2 : IsH (tA a) (gi s.testBit p) (31 : Nat).testBit (mA a (s ||| 2 ^ p)) := IsH_congr (fun q hq => by
    unfold gi
    show (s ||| 2 ^ p).testBit q = _
    rw [((xr p (by omega) s h16).2.2 q hq).2]) (mA_H hP hs2)
  constructor
  · obtain ⟨X, x1, x2, x3⟩ := H2.2
    obtain ⟨y1, -, y3⟩ := xr p (by omega) X x1
    have hsub : hs (X &&& (15 ^^^ 2 ^ p)) s.testBit := fun q hq r => by
      rw [(y3 q hq).1, Bool.and_eq_true] at r
      have := x2 q hq r.1
      unfold gi at this
      rw [Bool.or_eq_true] at this
      rcases this with z | z
      · exact z
      · have := r.2
        simp at this z
        omega
    have h1 := H1.1 _ y1 hsub
    by_cases hin : X.testBit p = true
    · have hX0 : ∀ q, q < 4 → X.testBit q = ((X &&& (15 ^^^ 2 ^ p)) ||| 2 ^ p).testBit q := fun q hq => by
        rw [((xr p (by omega) _ y1).2.2 q hq).2, (y3 q hq).1]
        by_cases e : q = p
        · rw [e, hin]; simp
        · have e1 : (q != p) = true := by simpa using e
          have e2 : (q == p) = false := by simpa using e
          rw [e1, e2, Bool.and_true, Bool.or_false]
      have hfe : hf (tA a) (gi s.testBit p) (31 : Nat).testBit X = hf (tA a) (gi s.testBit p) (31 : Nat).testBit ((X &&& (15 ^^^ 2 ^ p)) ||| 2 ^ p) := by
        unfold hf hp4 hn5
        congr 1
        · exact pb_sum_congr fun q hq => by rw [hX0 q hq]
        · exact pb_sum_congr fun b _ => by rw [nb_at hX0]
      rw [hfe, hf_in (by omega) y1 hsp] at x3
      have h2 : hn5 (tA a) (31 : Nat).testBit (X &&& (15 ^^^ 2 ^ p)) ≤ pb_sum (fun b => bz1 ((31 : Nat).testBit b && (nb (tA a) (X &&& (15 ^^^ 2 ^ p)) b || tA a p b))) 5 := by
        unfold hn5
        exact sum_le fun b _ => bz1_le (fun h => by rw [Bool.and_eq_true] at h ⊢; exact ⟨h.1, by rw [h.2]; rfl⟩)
      unfold hf at h1
      omega
    · have hin' : X.testBit p = false := by simpa using hin
      rw [hf_no (by omega) hsp hin'] at x3
      have hX0 : ∀ q, q < 4 → X.testBit q = (X &&& (15 ^^^ 2 ^ p)).testBit q := fun q hq => by
        rw [(y3 q hq).1]
        by_cases e : q = p
        · rw [e, hin']; rfl
        · have e1 : (q != p) = true := by simpa using e
          rw [e1, Bool.and_true]
      have hfe : hf (tA a) s.testBit (31 : Nat).testBit X = hf (tA a) s.testBit (31 : Nat).testBit (X &&& (15 ^^^ 2 ^ p)) := by
        unfold hf hp4 hn5
        congr 1
        · exact pb_sum_congr fun q hq => by rw [hX0 q hq]
        · exact pb_sum_congr fun b _ => by rw [nb_at hX0]
      rw [hfe] at x3
      omega
  · obtain ⟨X, x1, x2, x3⟩ := H1.2
    have hin' : X.testBit p = false := by
      cases e : X.testBit p with
      | false => rfl
      | true =>
        have := x2 p (by omega) e
        rw [show s.testBit p = false from hsp] at this
        cases this
    have := H2.1 X x1 (fun q hq r => by
      unfold gi
      have := x2 q hq r
      rw [this]
      rfl)
    rw [hf_no (by omega) hsp hin'] at this
    omega
end MATCH
