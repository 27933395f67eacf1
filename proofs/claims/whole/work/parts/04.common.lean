theorem pb_mask_at : ∀ (bs : List Bool) (L : List (Option Value)) (i : Nat) (v : Value), (List.zipWith (fun b x => if b then x else none) bs L)[i]? = some (some v) → L[i]? = some (some v)
  | [], L, i, v, h => by simp at h
  | b :: bs, [], i, v, h => by simp at h
  | b :: bs, x :: L, 0, v, h => by
    cases b
    · simp at h
    · simpa using h
  | b :: bs, x :: L, i + 1, v, h => by
    simp only [List.zipWith_cons_cons, List.getElem?_cons_succ] at h ⊢
    exact pb_mask_at bs L i v h
theorem pb_weakM {α : Type} {l : Launch} {E : pb_E} {R : Room} {own : String} {cc : ByteArray} {mL : Nat} {ret : Option FieldType} {Xs : State → Prop} {nc ns : Nat} {Qf : State → Array Value → List Frame → α → pb_M → State → Prop} {pc : Nat} {L L' : List (Option Value)} {S : List Value} {μ : pb_M} {o : Option (α × pb_M)} (bs : List Bool) (h : List.zipWith (fun b x => if b then x else none) bs L = L') (k : pb_RW l E R own cc mL ret Xs nc ns Qf pc L' S μ o) : pb_RW l E R own cc mL ret Xs nc ns Qf pc L S μ o := pb_weak (fun i v hi => pb_mask_at bs L i v (by rw [h]; exact hi)) k
theorem pb_same {L A : List (Option Value)} (Z : List (Option Value)) (h : (A ++ Z).take L.length = L) (hz : ∀ z ∈ Z, z = none := by simp) : ∀ (i : Nat) (v : Value), L[i]? = some (some v) → A[i]? = some (some v) := by
  intro i v hi
  rw [← h] at hi
  rw [List.getElem?_take] at hi
  split at hi
  · by_cases hA : i < A.length
    · rwa [List.getElem?_append_left hA] at hi
    · rw [List.getElem?_append_right (by omega)] at hi
      cases hz _ (List.mem_of_getElem? hi)
  · cases hi
theorem pb_R.of {h n : Nat} (hs : pb_sh[h]? = some (100, [n])) : pb_R h := by
  unfold pb_R pb_ln
  rw [hs]
  rfl
theorem pb_V4 : pb_V 4 := ⟨rfl, rfl⟩
theorem pb_V6 : pb_V 6 := ⟨rfl, rfl⟩

theorem pb_R2 : pb_R 2 := rfl
theorem pb_R3 : pb_R 3 := rfl
theorem pb_R5 : pb_R 5 := rfl
theorem pb_R7 : pb_R 7 := rfl
theorem pb_R9 : pb_R 9 := rfl
theorem pb_R11 : pb_R 11 := rfl
theorem pb_R13 : pb_R 13 := rfl
theorem pb_R14 : pb_R 14 := rfl
theorem pb_R16 : pb_R 16 := rfl
theorem pb_R17 : pb_R 17 := rfl
theorem pb_R18 : pb_R 18 := rfl
theorem pb_R20 : pb_R 20 := rfl
theorem pb_R21 : pb_R 21 := rfl
theorem pb_R22 : pb_R 22 := rfl
theorem pb_R23 : pb_R 23 := rfl
theorem pb_R24 : pb_R 24 := rfl
theorem pb_R25 : pb_R 25 := rfl
theorem pb_R26 : pb_R 26 := rfl
theorem pb_R27 : pb_R 27 := rfl
theorem pb_R29 : pb_R 29 := rfl
theorem in_X0 : ∀ w ∈ u_ws RX0 TX0 3, w ∈ pb_gw := fun w hw => List.mem_filter.mpr ⟨(by decide +kernel : ∀ w ∈ u_ws RX0 TX0 3, w ∈ lw_tbl) w hw, List.all_eq_true.mp (by decide +kernel : (u_ws RX0 TX0 3).all goodWord = true) w hw⟩
theorem in_X1 : ∀ w ∈ u_ws RX1 TX1 6, w ∈ pb_gw := fun w hw => List.mem_filter.mpr ⟨(by decide +kernel : ∀ w ∈ u_ws RX1 TX1 6, w ∈ lw_tbl) w hw, List.all_eq_true.mp (by decide +kernel : (u_ws RX1 TX1 6).all goodWord = true) w hw⟩
theorem in_X2 : ∀ w ∈ u_ws RX2 TX2 2, w ∈ pb_gw := fun w hw => List.mem_filter.mpr ⟨(by decide +kernel : ∀ w ∈ u_ws RX2 TX2 2, w ∈ lw_tbl) w hw, List.all_eq_true.mp (by decide +kernel : (u_ws RX2 TX2 2).all goodWord = true) w hw⟩
theorem in_X3 : ∀ w ∈ u_ws RX3 TX3 3, w ∈ pb_gw := fun w hw => List.mem_filter.mpr ⟨(by decide +kernel : ∀ w ∈ u_ws RX3 TX3 3, w ∈ lw_tbl) w hw, List.all_eq_true.mp (by decide +kernel : (u_ws RX3 TX3 3).all goodWord = true) w hw⟩
theorem in_X4 : ∀ w ∈ u_ws RX4 TX4 3, w ∈ pb_gw := fun w hw => List.mem_filter.mpr ⟨(by decide +kernel : ∀ w ∈ u_ws RX4 TX4 3, w ∈ lw_tbl) w hw, List.all_eq_true.mp (by decide +kernel : (u_ws RX4 TX4 3).all goodWord = true) w hw⟩
theorem in_X5 : ∀ w ∈ u_ws RX5 TX5 1, w ∈ pb_gw := fun w hw => List.mem_filter.mpr ⟨(by decide +kernel : ∀ w ∈ u_ws RX5 TX5 1, w ∈ lw_tbl) w hw, List.all_eq_true.mp (by decide +kernel : (u_ws RX5 TX5 1).all goodWord = true) w hw⟩
theorem in_X6 : ∀ w ∈ u_ws RX6 TX6 11, w ∈ pb_gw := fun w hw => List.mem_filter.mpr ⟨(by decide +kernel : ∀ w ∈ u_ws RX6 TX6 11, w ∈ lw_tbl) w hw, List.all_eq_true.mp (by decide +kernel : (u_ws RX6 TX6 11).all goodWord = true) w hw⟩
theorem in_X7 : ∀ w ∈ u_ws RX7 TX7 22, w ∈ pb_gw := fun w hw => List.mem_filter.mpr ⟨(by decide +kernel : ∀ w ∈ u_ws RX7 TX7 22, w ∈ lw_tbl) w hw, List.all_eq_true.mp (by decide +kernel : (u_ws RX7 TX7 22).all goodWord = true) w hw⟩
theorem one_X6 : ∀ i, ([3, 6, 8, 10, 12, 14, 17, 19, 20, 0, 1] : List Nat)[i]? = some 1 → i = 10 := by
  intro i h
  match i, h with
  | 0, h => exact absurd h (by decide)
  | 1, h => exact absurd h (by decide)
  | 2, h => exact absurd h (by decide)
  | 3, h => exact absurd h (by decide)
  | 4, h => exact absurd h (by decide)
  | 5, h => exact absurd h (by decide)
  | 6, h => exact absurd h (by decide)
  | 7, h => exact absurd h (by decide)
  | 8, h => exact absurd h (by decide)
  | 9, h => exact absurd h (by decide)
  | 10, h => rfl
  | i + 11, h => exact absurd h (by simp)
theorem one_X7 : ∀ i, ([0, 0, 22, 23, 24, 25, 0, 0, 26, 0, 0, 0, 0, 0, 27, 0, 0, 28, 29, 1, 30, 31] : List Nat)[i]? = some 1 → i = 19 := by
  intro i h
  match i, h with
  | 0, h => exact absurd h (by decide)
  | 1, h => exact absurd h (by decide)
  | 2, h => exact absurd h (by decide)
  | 3, h => exact absurd h (by decide)
  | 4, h => exact absurd h (by decide)
  | 5, h => exact absurd h (by decide)
  | 6, h => exact absurd h (by decide)
  | 7, h => exact absurd h (by decide)
  | 8, h => exact absurd h (by decide)
  | 9, h => exact absurd h (by decide)
  | 10, h => exact absurd h (by decide)
  | 11, h => exact absurd h (by decide)
  | 12, h => exact absurd h (by decide)
  | 13, h => exact absurd h (by decide)
  | 14, h => exact absurd h (by decide)
  | 15, h => exact absurd h (by decide)
  | 16, h => exact absurd h (by decide)
  | 17, h => exact absurd h (by decide)
  | 18, h => exact absurd h (by decide)
  | 19, h => rfl
  | 20, h => exact absurd h (by decide)
  | 21, h => exact absurd h (by decide)
  | i + 22, h => exact absurd h (by simp)
theorem km_min1 : Cond.static Lib.Math.min.name ∈ pb_gw := pb_inW 313 (by decide +kernel) (by decide +kernel)
theorem km_min3 : Cond.code Lib.Math.min.name Lib.Math.min.code 2 (some .int) ∈ pb_gw := pb_inW 314 (by decide +kernel) (by decide +kernel)
theorem km_max1 : Cond.static Lib.Math.max.name ∈ pb_gw := pb_inW 454 (by decide +kernel) (by decide +kernel)
theorem km_max3 : Cond.code Lib.Math.max.name Lib.Math.max.code 2 (some .int) ∈ pb_gw := pb_inW 455 (by decide +kernel) (by decide +kernel)
theorem km_2 : Cond.initialized "java/lang/Math" ∈ pb_gw := pb_inW 70 (by decide +kernel) (by decide +kernel)
theorem km_c2 : Cond.native arraycopyName ∈ pb_gw := pb_inW 329 (by decide +kernel) (by decide +kernel)
theorem km_c3 : Cond.static arraycopyName ∈ pb_gw := pb_inW 328 (by decide +kernel) (by decide +kernel)
theorem km_c4 : Cond.initialized "java/lang/System" ∈ pb_gw := pb_inW 71 (by decide +kernel) (by decide +kernel)
