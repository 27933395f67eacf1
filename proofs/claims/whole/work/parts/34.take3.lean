section TAKE3
variable {K : Nat} {S : pb_S}
theorem MM_fr {μ : pb_M} {a : pb_Vg} (hm : pb_MM μ 0 a) {r : Nat → Int32} (hr : pb_Fr (μ.1 21) r 45) : pb_MM (pb_sA μ 21 r) 0 a :=
  hm.with (MR_of hm.1 (fun k hk => hr _ (by omega))) rfl rfl (fun _ _ => rfl)
theorem m_takeJ1 {μ : pb_M} {v1 v2 v3 v4 v5 v6 v7 : Int32} {F : Int32 → Int32 → Int32 → pb_M → Option (Int32 × pb_M)} : pX7_take_J125 v1 v2 v3 F v4 v5 v6 v7 μ = F v6 v7 (v6 + (1 : Int32)) μ := by
  unfold pX7_take_J125 pX7_take_J130
  rw [if_neg (by decide), if_neg (by decide)]
theorem m_takeJ0 {μ : pb_M} {v1 v2 v3 v4 v5 v6 v7 : Int32} {F : Int32 → Int32 → Int32 → pb_M → Option (Int32 × pb_M)} : pX7_take_J129 v1 v2 v3 F v4 v5 v6 v7 μ = F v4 v5 (v6 + (1 : Int32)) μ := by
  unfold pX7_take_J129 pX7_take_J130
  rw [if_pos rfl, if_pos rfl]
end TAKE3
