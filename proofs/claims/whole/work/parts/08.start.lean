def pb_m0 : pb_M := (fun _ _ => 0, fun _ => 0)
theorem nst_all : ∀ q ∈ pb_nest, Cond.methodLinkNest q.1 q.2.1 q.2.2.1 q.2.2.2 ∈ lw_tbl := by decide +kernel
theorem nst_allI : ∀ q ∈ pb_nestI, Cond.methodLinkNest q.1 q.2.1 q.2.2.1 q.2.2.2 ∈ lw_tbl := by decide +kernel
theorem kz_fac : Cond.laysStatic "PoundBeasts$Matching" "FACTORIALS" "[I" ∈ lw_tbl := List.mem_of_getElem? (i := 597) (by decide +kernel)
