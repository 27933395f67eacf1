section READ2
variable {K : Nat} {S : pb_S} {μ : pb_M} {z : pb_Vg} {M : Nat} {t : Nat → Nat} {L p : Nat}
theorem c_pair (hc : pb_CR (μ.1 (6 + 1)) 0 z) (hz : vOk M z) {i j : Nat} (hi : i < 4) (hj : j < 4) : pX5_isPairLeft 6 (nI i) (nI j) μ = some (nI (if pl z i j = true then 1 else 0), μ) := by
  have hd := dle hz hi hj
  unfold pX5_isPairLeft pl
  by_cases e : i = j
  · rw [if_pos (by rw [e]), if_neg (by simp [e])]
    rfl
  · have he : vDebt z i j = z (11 + 4 * i + j) := rfl
    rw [if_neg (fun q => e ((nI_eq (by omega) (by omega)).mp q)), ix_debt, if_pos (q_in (by omega) (by omega)), q_cl (by omega), hc.lo (by omega)]
    by_cases e2 : vDebt z i j = 0
    · rw [if_pos (show nI (z (11 + 4 * i + j)) = (0 : Int32) by rw [← he, e2]; rfl), if_pos (by simp [e, e2])]
      rfl
    · rw [if_neg (show ¬ nI (z (11 + 4 * i + j)) = (0 : Int32) from fun q => e2 ((nI_eq (b := 0) (by omega) (by omega)).mp q)), if_neg (by simp [e2])]
      rfl
theorem c_plOL (hc : pb_CR (μ.1 (6 + 1)) 0 z) (hz : vOk M z) {i : Nat} (hi : i < 4) : ∀ (c b n : Nat), b + c = vP z → c < n → pX4_somePairIsLeftOf_L2 6 (nI i) n (nI b) μ = some (nI (if (pb_fst (pl z i) c b).isSome = true then 1 else 0), μ)
  | _, _, 0, _, hn => by omega
  | 0, b, n + 1, hb, _ => by
    have hP := hz.1.1
    rw [pX4_somePairIsLeftOf_L2, c_people hc, pb_b_some, if_pos ((nI_leI (by omega) (by omega)).mpr (by omega))]
    rfl
  | c + 1, b, n + 1, hb, hn => by
    have hP := hz.1.1
    rw [pX4_somePairIsLeftOf_L2, c_people hc, pb_b_some, if_neg (fun z => (show ¬ vP _ ≤ b by omega) ((nI_leI (by omega) (by omega)).mp z)), c_pair hc hz hi (by omega), pb_b_some, show nI b + (1 : Int32) = nI (b + 1) from nI_add b 1]
    unfold pb_fst
    by_cases e : pl z i b = true
    · rw [if_pos e, if_neg (by decide), if_pos e]
      rfl
    · rw [if_neg e, if_pos (show nI 0 = (0 : Int32) from rfl), c_plOL hc hz hi c (b + 1) n (by omega) (by omega), if_neg e]
theorem c_plO (hc : pb_CR (μ.1 (6 + 1)) 0 z) (hz : vOk M z) {i : Nat} (hi : i < 4) : pX4_somePairIsLeftOf 6 (nI i) μ = some (nI (if plO z i = true then 1 else 0), μ) := c_plOL hc hz hi (vP z) 0 pb_F (by omega) (pb_Fgt (by have := hz.1.1; omega))
theorem c_plAL (hc : pb_CR (μ.1 (6 + 1)) 0 z) (hz : vOk M z) : ∀ (c b n : Nat), b + c = vP z → c < n → pX4_somePairIsLeft_L2 6 n (nI b) μ = some (nI (if (pb_fst (plO z) c b).isSome = true then 1 else 0), μ)
  | _, _, 0, _, hn => by omega
  | 0, b, n + 1, hb, _ => by
    have hP := hz.1.1
    rw [pX4_somePairIsLeft_L2, c_people hc, pb_b_some, if_pos ((nI_leI (by omega) (by omega)).mpr (by omega))]
    rfl
  | c + 1, b, n + 1, hb, hn => by
    have hP := hz.1.1
    rw [pX4_somePairIsLeft_L2, c_people hc, pb_b_some, if_neg (fun z => (show ¬ vP _ ≤ b by omega) ((nI_leI (by omega) (by omega)).mp z)), c_plO hc hz (by omega), pb_b_some, show nI b + (1 : Int32) = nI (b + 1) from nI_add b 1]
    unfold pb_fst
    by_cases e : plO z b = true
    · rw [if_pos e, if_neg (by decide), if_pos e]
      rfl
    · rw [if_neg e, if_pos (show nI 0 = (0 : Int32) from rfl), c_plAL hc hz c (b + 1) n (by omega) (by omega), if_neg e]
theorem c_plA (hc : pb_CR (μ.1 (6 + 1)) 0 z) (hz : vOk M z) : pX4_somePairIsLeft 6 μ = some (nI (if plA z = true then 1 else 0), μ) := c_plAL hc hz (vP z) 0 pb_F (by omega) (pb_Fgt (by have := hz.1.1; omega))
theorem lit {c k : Nat} (hc : c < 2000000000) (hk : k < 2000000000) {x : Int32} (hx : x = nI k) : (nI c = x) = (c = k) := by rw [hx]; exact q_eq hc hk
theorem c_bgn (hc : pb_CR (μ.1 (6 + 1)) 0 z) (hz : vOk M z) {c : Nat} (hcc : c ≤ 255) : pX4_canBegin 6 (nI c) μ = some (nI (if bgn z c = true then 1 else 0), μ) := by
  have hP := hz.1.1
  have hB := hz.1.2
  unfold pX4_canBegin bgn
  simp only [lit (show c < 2000000000 by omega) (show 66 < 2000000000 by omega) (show (66 : Int32) = nI 66 from rfl), lit (show c < 2000000000 by omega) (show 68 < 2000000000 by omega) (show (68 : Int32) = nI 68 from rfl), lit (show c < 2000000000 by omega) (show 80 < 2000000000 by omega) (show (80 : Int32) = nI 80 from rfl)]
  by_cases e1 : c = 66
  · rw [if_pos e1, if_pos e1, c_people hc, pb_b_some]
    by_cases q1 : vP z = 0
    · rw [if_pos (show nI (vP z) ≤ (0 : Int32) by rw [q1]; decide), if_neg (by simp [q1])]
      rfl
    · rw [if_neg (show ¬ nI (vP z) ≤ (0 : Int32) from fun y => (show ¬ vP z ≤ 0 by omega) ((nI_leI (b := 0) (by omega) (by omega)).mp y)), c_beasts hc, pb_b_some]
      by_cases q2 : vB z < 5
      · rw [if_neg (show ¬ (5 : Int32) ≤ nI (vB z) from fun y => (show ¬ 5 ≤ vB z by omega) ((nI_leI (a := 5) (by omega) (by omega)).mp y)), if_pos (by simp [q2]; omega)]
        rfl
      · rw [if_pos (show (5 : Int32) ≤ nI (vB z) from (nI_leI (a := 5) (by omega) (by omega)).mpr (by omega)), if_neg (by simp [q2])]
        rfl
  · rw [if_neg e1, if_neg e1]
    by_cases e2 : c = 68
    · rw [if_pos e2, if_pos e2, c_plA hc hz, pb_b_some]
      cases plA z <;> rfl
    · rw [if_neg e2, if_neg e2]
      by_cases e3 : c = 80
      · rw [if_pos e3, if_pos e3, c_people hc, pb_b_some]
        by_cases q : vP z < 4
        · rw [if_neg (show ¬ (4 : Int32) ≤ nI (vP z) from fun y => (show ¬ 4 ≤ vP z by omega) ((nI_leI (a := 4) (by omega) (by omega)).mp y)), if_pos (by simpa using q)]
          rfl
        · rw [if_pos (show (4 : Int32) ≤ nI (vP z) from (nI_leI (a := 4) (by omega) (by omega)).mpr (by omega)), if_neg (by simpa using q)]
          rfl
      · rw [if_neg e3, if_neg e3]
        rfl
theorem b01e (c : Bool) : (if nI (if c = true then 1 else 0) = 0 ∨ nI (if c = true then 1 else 0) = 1 then some (nI (if c = true then 1 else 0), μ) else none) = some (nI (if c = true then 1 else 0), μ) := by cases c <;> rfl
theorem c_fok (hc : pb_CR (μ.1 (6 + 1)) 0 z) (hz : vOk M z) {c k v f0 : Nat} (hcc : c = 66 ∨ c = 68 ∨ c = 80) (hk : k < 3) (hv : v ≤ 9) (h3 : μ.1 3 k = nI v) (h30 : c = 68 → k = 1 → μ.1 3 0 = nI f0 ∧ f0 < 4) : pX4_figureFits 6 (nI c) (nI k) μ = some (nI (if fok z c k f0 v = true then 1 else 0), μ) := by
  have hP := hz.1.1
  unfold pX4_figureFits
  rw [if_pos (q_in (by omega) (by omega)), q_cl (by omega), h3, if_neg (show ¬ nI v < (0 : Int32) from fun y => (show ¬ v < 0 by omega) ((nI_ltI (b := 0) (by omega) (by omega)).mp y)), if_pos (show nI v ≤ (9 : Int32) from (nI_leI (b := 9) (by omega) (by omega)).mpr hv)]
  unfold fok
  rcases hcc with rfl | rfl | rfl
  · rw [if_pos (show nI 66 = (66 : Int32) from rfl), if_pos rfl]
    have : pX4_beastFigureFits 6 (nI k) (nI v) μ = some (nI (if (if k = 0 then decide (v < vP z) else if k = 1 then decide (1 ≤ v) else decide (v ≤ 3)) = true then 1 else 0), μ) := by
      unfold pX4_beastFigureFits
      rcases (show k = 0 ∨ k = 1 ∨ k = 2 by omega) with rfl | rfl | rfl
      · rw [if_pos (show nI 0 = (0 : Int32) from rfl), c_hasP hc, pb_b_some, b01e, inR_nI (by omega) (by omega), if_pos rfl]
      · rw [if_neg (by decide : ¬ nI 1 = (0 : Int32)), if_pos (show nI 1 = (1 : Int32) from rfl), if_neg (show ¬ 1 = 0 by omega), if_pos rfl]
        by_cases q : 1 ≤ v
        · rw [if_neg (show ¬ nI v < (1 : Int32) from fun y => (show ¬ v < 1 by omega) ((nI_ltI (b := 1) (by omega) (by omega)).mp y)), decide_eq_true q]
          rfl
        · rw [if_pos (show nI v < (1 : Int32) from (nI_ltI (b := 1) (by omega) (by omega)).mpr (by omega)), decide_eq_false q]
          rfl
      · rw [if_neg (by decide : ¬ nI 2 = (0 : Int32)), if_neg (by decide : ¬ nI 2 = (1 : Int32)), if_neg (show ¬ nI v < (0 : Int32) from fun y => (show ¬ v < 0 by omega) ((nI_ltI (b := 0) (by omega) (by omega)).mp y)), if_neg (show ¬ 2 = 0 by omega), if_neg (show ¬ 2 = 1 by omega)]
        by_cases q : v ≤ 3
        · rw [if_neg (show ¬ (3 : Int32) < nI v from fun y => (show ¬ 3 < v by omega) ((nI_ltI (a := 3) (by omega) (by omega)).mp y)), decide_eq_true q]
          rfl
        · rw [if_pos (show (3 : Int32) < nI v from (nI_ltI (a := 3) (by omega) (by omega)).mpr (by omega)), decide_eq_false q]
          rfl
    rw [this, pb_b_some, b01e]
  · rw [if_neg (by decide : ¬ nI 68 = (66 : Int32)), if_pos (show nI 68 = (68 : Int32) from rfl), if_neg (show ¬ 68 = 66 by omega), if_pos rfl]
    have : pX4_debtFigureFits 6 (nI k) (nI v) μ = some (nI (if (if k = 0 then decide (v < vP z) && plO z v else if k = 1 then decide (v < vP z) && pl z f0 v else decide (1 ≤ v)) = true then 1 else 0), μ) := by
      unfold pX4_debtFigureFits
      rcases (show k = 0 ∨ k = 1 ∨ k = 2 by omega) with rfl | rfl | rfl
      · rw [if_pos (show nI 0 = (0 : Int32) from rfl), c_hasP hc, pb_b_some, inR_nI (by omega) (by omega), if_pos rfl]
        by_cases q : v < vP z
        · rw [decide_eq_true q, if_pos rfl, if_neg (by decide), c_plO hc hz (by omega), pb_b_some, Bool.true_and]
          cases plO z v <;> rfl
        · rw [decide_eq_false q, Bool.false_and]
          rfl
      · obtain ⟨h0, hf0⟩ := h30 rfl rfl
        rw [if_neg (by decide : ¬ nI 1 = (0 : Int32)), if_pos (show nI 1 = (1 : Int32) from rfl), c_hasP hc, pb_b_some, inR_nI (by omega) (by omega), if_neg (show ¬ 1 = 0 by omega), if_pos rfl]
        by_cases q : v < vP z
        · rw [decide_eq_true q, if_pos rfl, if_neg (by decide), h0, c_pair hc hz hf0 (by omega), pb_b_some, Bool.true_and]
          cases pl z f0 v <;> rfl
        · rw [decide_eq_false q, Bool.false_and]
          rfl
      · rw [if_neg (by decide : ¬ nI 2 = (0 : Int32)), if_neg (by decide : ¬ nI 2 = (1 : Int32)), if_neg (show ¬ 2 = 0 by omega), if_neg (show ¬ 2 = 1 by omega)]
        by_cases q : 1 ≤ v
        · rw [if_neg (show ¬ nI v < (1 : Int32) from fun y => (show ¬ v < 1 by omega) ((nI_ltI (b := 1) (by omega) (by omega)).mp y)), decide_eq_true q]
          rfl
        · rw [if_pos (show nI v < (1 : Int32) from (nI_ltI (b := 1) (by omega) (by omega)).mpr (by omega)), decide_eq_false q]
          rfl
    rw [this, pb_b_some, b01e]
  · rw [if_neg (by decide : ¬ nI 80 = (66 : Int32)), if_neg (by decide : ¬ nI 80 = (68 : Int32)), if_neg (show ¬ 80 = 66 by omega), if_neg (show ¬ 80 = 68 by omega)]
    rfl
/-- a letter that is no figure fits nowhere -/
theorem c_fno {c k x : Nat} (hk : k < 3) (hx : x ≤ 255) (h : ¬ (48 ≤ x ∧ x ≤ 57)) (h3 : μ.1 3 k = nI x - (48 : Int32)) : pX4_figureFits 6 (nI c) (nI k) μ = some ((0 : Int32), μ) := by
  have e : (nI x - (48 : Int32)).toInt = (x : Int) - 48 := pk_sub_toInt (b := 48) (by omega) (by omega)
  unfold pX4_figureFits
  rw [if_pos (q_in (by omega) (by omega)), q_cl (by omega), h3]
  by_cases q : x < 48
  · rw [if_pos (show nI x - (48 : Int32) < 0 by rw [Int32.lt_iff_toInt_lt, e, show (0 : Int32).toInt = 0 from by decide]; omega)]
  · rw [if_neg (show ¬ nI x - (48 : Int32) < 0 by rw [Int32.lt_iff_toInt_lt, e, show (0 : Int32).toInt = 0 from by decide]; omega), if_neg (show ¬ nI x - (48 : Int32) ≤ 9 by rw [Int32.le_iff_toInt_le, e, show (9 : Int32).toInt = 9 from by decide]; omega)]
def pb_TX (μ : pb_M) (t : Nat → Nat) (L : Nat) : Prop := μ.1 1 2 = nI L ∧ ∀ j, j < L → μ.1 2 j = nI (t j)
theorem bgn_c {c : Nat} (h : bgn z c = true) : c = 66 ∨ c = 68 ∨ c = 80 := by
  unfold bgn at h
  by_cases e1 : c = 66
  · exact Or.inl e1
  · by_cases e2 : c = 68
    · exact Or.inr (Or.inl e2)
    · by_cases e3 : c = 80
      · exact Or.inr (Or.inr e3)
      · rw [if_neg e1, if_neg e2, if_neg e3] at h
        cases h
theorem c_figL (hc : pb_CR (μ.1 7) 0 z) (hz : vOk M z) (ht : pb_TX μ t L) (hL : L ≤ 56) (h255 : ∀ j, j < L → t j ≤ 255) (hp : p < L) (hb : bgn z (t p) = true) (Kc : pb_M → Option (Int32 × pb_M)) : ∀ (c k n : Nat) (g : Nat → Int32), k + c = fw (t p) → c < n → (∀ j, j < k → g j = nI (t (p + 1 + j) - 48) ∧ fbad t L z p j = false) → ∃ g', (∀ j, pb_fst (fbad t L z p) c k = some j → pX4_readPart_L26 6 (nI p) (nI (t p)) (nI (fw (t p))) Kc n (nI k) (pb_sA μ 3 g) = some (nI (p + 1 + j), pb_sA μ 3 g')) ∧ (pb_fst (fbad t L z p) c k = none → pX4_readPart_L26 6 (nI p) (nI (t p)) (nI (fw (t p))) Kc n (nI k) (pb_sA μ 3 g) = Kc (pb_sA μ 3 g') ∧ ∀ j, j < fw (t p) → g' j = nI (t (p + 1 + j) - 48))
  | _, _, 0, _, _, hn, _ => by omega
  | 0, k, n + 1, g, hk, _, hg => by
    have hw : fw (t p) ≤ 3 := by unfold fw; split <;> omega
    refine ⟨g, (fun j h => by cases h), fun _ => ⟨?_, fun j hj => (hg j (by omega)).1⟩⟩
    rw [pX4_readPart_L26, if_pos ((nI_leI (by omega) (by omega)).mpr (by omega))]
  | c + 1, k, n + 1, g, hk, hn, hg => by
    have hw : fw (t p) ≤ 3 := by unfold fw; split <;> omega
    have hP := hz.1.1
    have hle : p + 1 + k ≤ L := by
      cases k with
      | zero => omega
      | succ k =>
        have := (fgd_of (hg k (by omega)).2).1
        omega
    have e1 : (nI p + (1 : Int32)) + nI k = nI (p + 1 + k) := by rw [show nI p + (1 : Int32) = nI (p + 1) from nI_add p 1, nI_add]
    have eL : (pb_sA μ 3 g).1 1 2 = nI L := by rw [pb_sA_ne (by decide)]; exact ht.1
    rw [pX4_readPart_L26, if_neg (fun y => (show ¬ fw (t p) ≤ k by omega) ((nI_leI (by omega) (by omega)).mp y)), e1, eL]
    unfold pb_fst
    by_cases q : p + 1 + k < L
    · have eT : (pb_sA μ 3 g).1 2 (p + 1 + k) = nI (t (p + 1 + k)) := by rw [pb_sA_ne (by decide)]; exact ht.2 _ q
      have hx := h255 _ q
      have hc' : ∀ g', pb_CR ((pb_sA μ 3 g').1 (6 + 1)) 0 z := fun g' => by rw [pb_sA_ne (by decide)]; exact hc
      rw [if_pos ((nI_ltI (by omega) (by omega)).mpr q), if_pos (q_in (by omega) (by omega)), if_pos (q_in (by omega) (by omega)), q_cl (by omega), q_cl (by omega), eT, pb_sA_sA, pb_sA_eq]
      have h3 : (pb_sA μ 3 (upd g k (nI (t (p + 1 + k)) - (48 : Int32)))).1 3 k = nI (t (p + 1 + k)) - (48 : Int32) := by rw [pb_sA_eq, upd_eq]
      by_cases r : 48 ≤ t (p + 1 + k) ∧ t (p + 1 + k) ≤ 57
      · have e48 : nI (t (p + 1 + k)) - (48 : Int32) = nI (t (p + 1 + k) - 48) := pk_sub r.1
        rw [e48] at h3 ⊢
        have hf := c_fok (hc' _) hz (c := t p) (k := k) (v := t (p + 1 + k) - 48) (f0 := t (p + 1) - 48) (bgn_c hb) (by omega) (by omega) h3 (fun d1 d2 => by
          subst d2
          have g0 := hg 0 (by omega)
          obtain ⟨-, -, -, f3⟩ := fgd_of g0.2
          rw [pb_sA_eq, upd_ne (by decide), g0.1]
          unfold fok at f3
          rw [if_neg (by omega), if_pos d1, if_pos rfl, Bool.and_eq_true, decide_eq_true_eq] at f3
          have := f3.1
          rw [Nat.add_zero] at this ⊢
          exact ⟨rfl, by omega⟩)
        rw [hf, pb_b_some]
        have hbad : fbad t L z p k = !(fok z (t p) k (t (p + 1) - 48) (t (p + 1 + k) - 48)) := by
          unfold fbad fgd
          rw [decide_eq_false (show ¬ L ≤ p + 1 + k by omega), decide_eq_true r, Bool.false_or, Bool.true_and]
        by_cases s : fok z (t p) k (t (p + 1) - 48) (t (p + 1 + k) - 48) = true
        · rw [if_pos s, if_neg (show ¬ nI 1 = (0 : Int32) from by decide), if_neg (show ¬ fbad t L z p k = true from by rw [hbad, s]; decide), show nI k + (1 : Int32) = nI (k + 1) from nI_add k 1]
          exact c_figL hc hz ht hL h255 hp hb Kc c (k + 1) n _ (by omega) (by omega) (fun j hj => by
            by_cases d : j = k
            · subst d
              rw [upd_eq]
              exact ⟨rfl, by rw [hbad, s]; rfl⟩
            · rw [upd_ne d]
              exact hg j (by omega))
        · have s' : fok z (t p) k (t (p + 1) - 48) (t (p + 1 + k) - 48) = false := by simpa using s
          rw [if_neg s, if_pos (show nI 0 = (0 : Int32) from rfl), if_pos (show fbad t L z p k = true from by rw [hbad, s']; rfl)]
          exact ⟨_, (fun j h => by cases h; rfl), fun h => by cases h⟩
      · have hbad : fbad t L z p k = true := by
          unfold fbad fgd
          rw [decide_eq_false r, Bool.false_and]
          simp
        rw [c_fno (by omega) hx r h3, pb_b_some, if_pos rfl, if_pos hbad]
        exact ⟨_, (fun j h => by cases h; rfl), fun h => by cases h⟩
    · have hbad : fbad t L z p k = true := by
        unfold fbad
        rw [decide_eq_true (show L ≤ p + 1 + k by omega), Bool.true_or]
      rw [if_neg (fun y => q ((nI_ltI (by omega) (by omega)).mp y)), if_pos hbad]
      refine ⟨g, (fun j h => ?_), fun h => by cases h⟩
      cases h
      rw [show L = p + 1 + k by omega]
end READ2
