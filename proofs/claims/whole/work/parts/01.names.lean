-- ===== PART A: goes FIRST, ahead of the names: the tables' words, and 'selects' of the private methods out of them =====
/-- a private method of a class that the tables say can be made, by its rows of tables_1 -/
def lw_okq (q : MethodName × Nat) : Prop := (q.1.cls ≠ "java/lang/invoke/MethodHandle" ∧ q.1.cls ≠ "java/lang/invoke/VarHandle") ∧ Cond.instantiable q.1.cls q.2 ∈ tables_1 ∧ Cond.privateMethod q.1 ∈ tables_1 ∧ Cond.instanceMethod q.1 ∈ tables_1
theorem lw_p0 : lw_okq (⟨"PoundBeasts$Script", "readPart", "(LPoundBeasts$Village;I)I"⟩, 3) := ⟨⟨by decide +kernel, by decide +kernel⟩, List.mem_of_getElem? (i := 22) (by decide +kernel), List.mem_of_getElem? (i := 188) (by decide +kernel), List.mem_of_getElem? (i := 189) (by decide +kernel)⟩
theorem lw_p1 : lw_okq (⟨"PoundBeasts$Script", "figureFits", "(LPoundBeasts$Village;II)Z"⟩, 3) := ⟨⟨by decide +kernel, by decide +kernel⟩, List.mem_of_getElem? (i := 22) (by decide +kernel), List.mem_of_getElem? (i := 216) (by decide +kernel), List.mem_of_getElem? (i := 217) (by decide +kernel)⟩
theorem lw_p2 : lw_okq (⟨"PoundBeasts$Script", "debtFigureFits", "(LPoundBeasts$Village;II)Z"⟩, 3) := ⟨⟨by decide +kernel, by decide +kernel⟩, List.mem_of_getElem? (i := 22) (by decide +kernel), List.mem_of_getElem? (i := 228) (by decide +kernel), List.mem_of_getElem? (i := 229) (by decide +kernel)⟩
theorem lw_p3 : lw_okq (⟨"PoundBeasts$Script", "tell", "(LPoundBeasts$Village;I)V"⟩, 3) := ⟨⟨by decide +kernel, by decide +kernel⟩, List.mem_of_getElem? (i := 22) (by decide +kernel), List.mem_of_getElem? (i := 232) (by decide +kernel), List.mem_of_getElem? (i := 233) (by decide +kernel)⟩
theorem lw_p4 : lw_okq (⟨"PoundBeasts$Village", "oweNow", "(III)V"⟩, 1) := ⟨⟨by decide +kernel, by decide +kernel⟩, List.mem_of_getElem? (i := 39) (by decide +kernel), List.mem_of_getElem? (i := 256) (by decide +kernel), List.mem_of_getElem? (i := 257) (by decide +kernel)⟩
theorem lw_p5 : lw_okq (⟨"PoundBeasts$Village", "isMarch", "()Z"⟩, 1) := ⟨⟨by decide +kernel, by decide +kernel⟩, List.mem_of_getElem? (i := 39) (by decide +kernel), List.mem_of_getElem? (i := 356) (by decide +kernel), List.mem_of_getElem? (i := 357) (by decide +kernel)⟩
theorem lw_p6 : lw_okq (⟨"PoundBeasts$Village", "feed", "(I)V"⟩, 1) := ⟨⟨by decide +kernel, by decide +kernel⟩, List.mem_of_getElem? (i := 39) (by decide +kernel), List.mem_of_getElem? (i := 389) (by decide +kernel), List.mem_of_getElem? (i := 390) (by decide +kernel)⟩
theorem lw_p7 : lw_okq (⟨"PoundBeasts$Village", "goHome", "(I)V"⟩, 1) := ⟨⟨by decide +kernel, by decide +kernel⟩, List.mem_of_getElem? (i := 39) (by decide +kernel), List.mem_of_getElem? (i := 397) (by decide +kernel), List.mem_of_getElem? (i := 398) (by decide +kernel)⟩
theorem lw_p8 : lw_okq (⟨"PoundBeasts$Village", "lessenDebt", "(III)V"⟩, 1) := ⟨⟨by decide +kernel, by decide +kernel⟩, List.mem_of_getElem? (i := 39) (by decide +kernel), List.mem_of_getElem? (i := 419) (by decide +kernel), List.mem_of_getElem? (i := 420) (by decide +kernel)⟩
theorem lw_p9 : lw_okq (⟨"PoundBeasts$Village", "sendHome", "(II)V"⟩, 1) := ⟨⟨by decide +kernel, by decide +kernel⟩, List.mem_of_getElem? (i := 39) (by decide +kernel), List.mem_of_getElem? (i := 423) (by decide +kernel), List.mem_of_getElem? (i := 424) (by decide +kernel)⟩
theorem lw_p10 : lw_okq (⟨"PoundBeasts", "owedAfterKeeping", "(III)I"⟩, 11) := ⟨⟨by decide +kernel, by decide +kernel⟩, List.mem_of_getElem? (i := 14) (by decide +kernel), List.mem_of_getElem? (i := 486) (by decide +kernel), List.mem_of_getElem? (i := 487) (by decide +kernel)⟩
theorem lw_p11 : lw_okq (⟨"PoundBeasts$Matching", "everybody", "()I"⟩, 2) := ⟨⟨by decide +kernel, by decide +kernel⟩, List.mem_of_getElem? (i := 65) (by decide +kernel), List.mem_of_getElem? (i := 509) (by decide +kernel), List.mem_of_getElem? (i := 510) (by decide +kernel)⟩
theorem lw_p12 : lw_okq (⟨"PoundBeasts$Matching", "mostOf", "(II)I"⟩, 2) := ⟨⟨by decide +kernel, by decide +kernel⟩, List.mem_of_getElem? (i := 65) (by decide +kernel), List.mem_of_getElem? (i := 513) (by decide +kernel), List.mem_of_getElem? (i := 514) (by decide +kernel)⟩
theorem lw_p13 : lw_okq (⟨"PoundBeasts$Matching", "firstChoice", "(III)I"⟩, 2) := ⟨⟨by decide +kernel, by decide +kernel⟩, List.mem_of_getElem? (i := 65) (by decide +kernel), List.mem_of_getElem? (i := 524) (by decide +kernel), List.mem_of_getElem? (i := 525) (by decide +kernel)⟩
theorem lw_p14 : lw_okq (⟨"PoundBeasts$Rings", "follow", "(LPoundBeasts$Village;II)V"⟩, 3) := ⟨⟨by decide +kernel, by decide +kernel⟩, List.mem_of_getElem? (i := 78) (by decide +kernel), List.mem_of_getElem? (i := 566) (by decide +kernel), List.mem_of_getElem? (i := 567) (by decide +kernel)⟩
theorem lw_p15 : lw_okq (⟨"PoundBeasts", "happens", "(I)Z"⟩, 11) := ⟨⟨by decide +kernel, by decide +kernel⟩, List.mem_of_getElem? (i := 14) (by decide +kernel), List.mem_of_getElem? (i := 591) (by decide +kernel), List.mem_of_getElem? (i := 592) (by decide +kernel)⟩
def lw_privs_1 : List (MethodName × Nat) := [(⟨"PoundBeasts$Script", "readPart", "(LPoundBeasts$Village;I)I"⟩, 3), (⟨"PoundBeasts$Script", "figureFits", "(LPoundBeasts$Village;II)Z"⟩, 3), (⟨"PoundBeasts$Script", "debtFigureFits", "(LPoundBeasts$Village;II)Z"⟩, 3), (⟨"PoundBeasts$Script", "tell", "(LPoundBeasts$Village;I)V"⟩, 3), (⟨"PoundBeasts$Village", "oweNow", "(III)V"⟩, 1), (⟨"PoundBeasts$Village", "isMarch", "()Z"⟩, 1), (⟨"PoundBeasts$Village", "feed", "(I)V"⟩, 1), (⟨"PoundBeasts$Village", "goHome", "(I)V"⟩, 1), (⟨"PoundBeasts$Village", "lessenDebt", "(III)V"⟩, 1), (⟨"PoundBeasts$Village", "sendHome", "(II)V"⟩, 1), (⟨"PoundBeasts", "owedAfterKeeping", "(III)I"⟩, 11), (⟨"PoundBeasts$Matching", "everybody", "()I"⟩, 2), (⟨"PoundBeasts$Matching", "mostOf", "(II)I"⟩, 2), (⟨"PoundBeasts$Matching", "firstChoice", "(III)I"⟩, 2), (⟨"PoundBeasts$Rings", "follow", "(LPoundBeasts$Village;II)V"⟩, 3), (⟨"PoundBeasts", "happens", "(I)Z"⟩, 11)]
theorem lw_r1 : ∀ q ∈ lw_privs_1, lw_okq q := List.forall_mem_cons.mpr ⟨lw_p0, List.forall_mem_cons.mpr ⟨lw_p1, List.forall_mem_cons.mpr ⟨lw_p2, List.forall_mem_cons.mpr ⟨lw_p3, List.forall_mem_cons.mpr ⟨lw_p4, List.forall_mem_cons.mpr ⟨lw_p5, List.forall_mem_cons.mpr ⟨lw_p6, List.forall_mem_cons.mpr ⟨lw_p7, List.forall_mem_cons.mpr ⟨lw_p8, List.forall_mem_cons.mpr ⟨lw_p9, List.forall_mem_cons.mpr ⟨lw_p10, List.forall_mem_cons.mpr ⟨lw_p11, List.forall_mem_cons.mpr ⟨lw_p12, List.forall_mem_cons.mpr ⟨lw_p13, List.forall_mem_cons.mpr ⟨lw_p14, List.forall_mem_cons.mpr ⟨lw_p15, fun _ h => absurd h List.not_mem_nil⟩⟩⟩⟩⟩⟩⟩⟩⟩⟩⟩⟩⟩⟩⟩⟩
theorem lw_p16 : lw_okq (⟨"PoundBeasts", "driveIfFree", "(II)Z"⟩, 11) := ⟨⟨by decide +kernel, by decide +kernel⟩, List.mem_of_getElem? (i := 14) (by decide +kernel), List.mem_of_getElem? (i := 595) (by decide +kernel), List.mem_of_getElem? (i := 596) (by decide +kernel)⟩
theorem lw_p17 : lw_okq (⟨"PoundBeasts", "runHomeIfShut", "(I)Z"⟩, 11) := ⟨⟨by decide +kernel, by decide +kernel⟩, List.mem_of_getElem? (i := 14) (by decide +kernel), List.mem_of_getElem? (i := 599) (by decide +kernel), List.mem_of_getElem? (i := 600) (by decide +kernel)⟩
theorem lw_p18 : lw_okq (⟨"PoundBeasts", "keepIfRipe", "(I)Z"⟩, 11) := ⟨⟨by decide +kernel, by decide +kernel⟩, List.mem_of_getElem? (i := 14) (by decide +kernel), List.mem_of_getElem? (i := 603) (by decide +kernel), List.mem_of_getElem? (i := 604) (by decide +kernel)⟩
theorem lw_p19 : lw_okq (⟨"PoundBeasts", "passTrialDay", "()Z"⟩, 11) := ⟨⟨by decide +kernel, by decide +kernel⟩, List.mem_of_getElem? (i := 14) (by decide +kernel), List.mem_of_getElem? (i := 607) (by decide +kernel), List.mem_of_getElem? (i := 608) (by decide +kernel)⟩
theorem lw_p20 : lw_okq (⟨"PoundBeasts", "areBeasts", "(I)Z"⟩, 11) := ⟨⟨by decide +kernel, by decide +kernel⟩, List.mem_of_getElem? (i := 14) (by decide +kernel), List.mem_of_getElem? (i := 615) (by decide +kernel), List.mem_of_getElem? (i := 616) (by decide +kernel)⟩
theorem lw_p21 : lw_okq (⟨"PoundBeasts$Bargain", "isOpen", "(I)Z"⟩, 6) := ⟨⟨by decide +kernel, by decide +kernel⟩, List.mem_of_getElem? (i := 94) (by decide +kernel), List.mem_of_getElem? (i := 642) (by decide +kernel), List.mem_of_getElem? (i := 643) (by decide +kernel)⟩
theorem lw_p22 : lw_okq (⟨"PoundBeasts$Bargain", "ownerRests", "(II)Z"⟩, 6) := ⟨⟨by decide +kernel, by decide +kernel⟩, List.mem_of_getElem? (i := 94) (by decide +kernel), List.mem_of_getElem? (i := 647) (by decide +kernel), List.mem_of_getElem? (i := 648) (by decide +kernel)⟩
theorem lw_p23 : lw_okq (⟨"PoundBeasts$Bargain", "cost", "(II)I"⟩, 6) := ⟨⟨by decide +kernel, by decide +kernel⟩, List.mem_of_getElem? (i := 94) (by decide +kernel), List.mem_of_getElem? (i := 651) (by decide +kernel), List.mem_of_getElem? (i := 652) (by decide +kernel)⟩
theorem lw_p24 : lw_okq (⟨"PoundBeasts$Bargain", "creditorRests", "(II)Z"⟩, 6) := ⟨⟨by decide +kernel, by decide +kernel⟩, List.mem_of_getElem? (i := 94) (by decide +kernel), List.mem_of_getElem? (i := 655) (by decide +kernel), List.mem_of_getElem? (i := 656) (by decide +kernel)⟩
theorem lw_p25 : lw_okq (⟨"PoundBeasts$Bargain", "gain", "(II)I"⟩, 6) := ⟨⟨by decide +kernel, by decide +kernel⟩, List.mem_of_getElem? (i := 94) (by decide +kernel), List.mem_of_getElem? (i := 659) (by decide +kernel), List.mem_of_getElem? (i := 660) (by decide +kernel)⟩
theorem lw_p26 : lw_okq (⟨"PoundBeasts", "keepAllRipe", "()V"⟩, 11) := ⟨⟨by decide +kernel, by decide +kernel⟩, List.mem_of_getElem? (i := 14) (by decide +kernel), List.mem_of_getElem? (i := 691) (by decide +kernel), List.mem_of_getElem? (i := 692) (by decide +kernel)⟩
theorem lw_p27 : lw_okq (⟨"PoundBeastsModel", "readText", "()I"⟩, 22) := ⟨⟨by decide +kernel, by decide +kernel⟩, List.mem_of_getElem? (i := 719) (by decide +kernel), List.mem_of_getElem? (i := 809) (by decide +kernel), List.mem_of_getElem? (i := 810) (by decide +kernel)⟩
theorem lw_p28 : lw_okq (⟨"PoundBeastsModel", "readPart", "(I)V"⟩, 22) := ⟨⟨by decide +kernel, by decide +kernel⟩, List.mem_of_getElem? (i := 719) (by decide +kernel), List.mem_of_getElem? (i := 813) (by decide +kernel), List.mem_of_getElem? (i := 814) (by decide +kernel)⟩
theorem lw_p29 : lw_okq (⟨"PoundBeastsModel", "figure", "(II)I"⟩, 22) := ⟨⟨by decide +kernel, by decide +kernel⟩, List.mem_of_getElem? (i := 719) (by decide +kernel), List.mem_of_getElem? (i := 817) (by decide +kernel), List.mem_of_getElem? (i := 818) (by decide +kernel)⟩
theorem lw_p30 : lw_okq (⟨"PoundBeastsModel", "debtorsLeft", "()I"⟩, 22) := ⟨⟨by decide +kernel, by decide +kernel⟩, List.mem_of_getElem? (i := 719) (by decide +kernel), List.mem_of_getElem? (i := 821) (by decide +kernel), List.mem_of_getElem? (i := 822) (by decide +kernel)⟩
theorem lw_p31 : lw_okq (⟨"PoundBeastsModel", "debtsLeft", "(I)I"⟩, 22) := ⟨⟨by decide +kernel, by decide +kernel⟩, List.mem_of_getElem? (i := 719) (by decide +kernel), List.mem_of_getElem? (i := 825) (by decide +kernel), List.mem_of_getElem? (i := 826) (by decide +kernel)⟩
def lw_privs_2 : List (MethodName × Nat) := [(⟨"PoundBeasts", "driveIfFree", "(II)Z"⟩, 11), (⟨"PoundBeasts", "runHomeIfShut", "(I)Z"⟩, 11), (⟨"PoundBeasts", "keepIfRipe", "(I)Z"⟩, 11), (⟨"PoundBeasts", "passTrialDay", "()Z"⟩, 11), (⟨"PoundBeasts", "areBeasts", "(I)Z"⟩, 11), (⟨"PoundBeasts$Bargain", "isOpen", "(I)Z"⟩, 6), (⟨"PoundBeasts$Bargain", "ownerRests", "(II)Z"⟩, 6), (⟨"PoundBeasts$Bargain", "cost", "(II)I"⟩, 6), (⟨"PoundBeasts$Bargain", "creditorRests", "(II)Z"⟩, 6), (⟨"PoundBeasts$Bargain", "gain", "(II)I"⟩, 6), (⟨"PoundBeasts", "keepAllRipe", "()V"⟩, 11), (⟨"PoundBeastsModel", "readText", "()I"⟩, 22), (⟨"PoundBeastsModel", "readPart", "(I)V"⟩, 22), (⟨"PoundBeastsModel", "figure", "(II)I"⟩, 22), (⟨"PoundBeastsModel", "debtorsLeft", "()I"⟩, 22), (⟨"PoundBeastsModel", "debtsLeft", "(I)I"⟩, 22)]
theorem lw_r2 : ∀ q ∈ lw_privs_2, lw_okq q := List.forall_mem_cons.mpr ⟨lw_p16, List.forall_mem_cons.mpr ⟨lw_p17, List.forall_mem_cons.mpr ⟨lw_p18, List.forall_mem_cons.mpr ⟨lw_p19, List.forall_mem_cons.mpr ⟨lw_p20, List.forall_mem_cons.mpr ⟨lw_p21, List.forall_mem_cons.mpr ⟨lw_p22, List.forall_mem_cons.mpr ⟨lw_p23, List.forall_mem_cons.mpr ⟨lw_p24, List.forall_mem_cons.mpr ⟨lw_p25, List.forall_mem_cons.mpr ⟨lw_p26, List.forall_mem_cons.mpr ⟨lw_p27, List.forall_mem_cons.mpr ⟨lw_p28, List.forall_mem_cons.mpr ⟨lw_p29, List.forall_mem_cons.mpr ⟨lw_p30, List.forall_mem_cons.mpr ⟨lw_p31, fun _ h => absurd h List.not_mem_nil⟩⟩⟩⟩⟩⟩⟩⟩⟩⟩⟩⟩⟩⟩⟩⟩
theorem lw_p32 : lw_okq (⟨"PoundBeastsModel", "figureOf", "(I)I"⟩, 22) := ⟨⟨by decide +kernel, by decide +kernel⟩, List.mem_of_getElem? (i := 719) (by decide +kernel), List.mem_of_getElem? (i := 829) (by decide +kernel), List.mem_of_getElem? (i := 830) (by decide +kernel)⟩
theorem lw_p33 : lw_okq (⟨"PoundBeastsModel", "isPerson", "(I)Z"⟩, 22) := ⟨⟨by decide +kernel, by decide +kernel⟩, List.mem_of_getElem? (i := 719) (by decide +kernel), List.mem_of_getElem? (i := 845) (by decide +kernel), List.mem_of_getElem? (i := 846) (by decide +kernel)⟩
theorem lw_p34 : lw_okq (⟨"PoundBeastsModel", "isBeast", "(I)Z"⟩, 22) := ⟨⟨by decide +kernel, by decide +kernel⟩, List.mem_of_getElem? (i := 719) (by decide +kernel), List.mem_of_getElem? (i := 856) (by decide +kernel), List.mem_of_getElem? (i := 857) (by decide +kernel)⟩
theorem lw_p35 : lw_okq (⟨"PoundBeastsModel", "clauseOn", "(III)I"⟩, 22) := ⟨⟨by decide +kernel, by decide +kernel⟩, List.mem_of_getElem? (i := 719) (by decide +kernel), List.mem_of_getElem? (i := 868) (by decide +kernel), List.mem_of_getElem? (i := 869) (by decide +kernel)⟩
theorem lw_p36 : lw_okq (⟨"PoundBeastsModel", "isIn", "(II)Z"⟩, 22) := ⟨⟨by decide +kernel, by decide +kernel⟩, List.mem_of_getElem? (i := 719) (by decide +kernel), List.mem_of_getElem? (i := 872) (by decide +kernel), List.mem_of_getElem? (i := 873) (by decide +kernel)⟩
theorem lw_p37 : lw_okq (⟨"PoundBeastsModel", "keepAct", "()V"⟩, 22) := ⟨⟨by decide +kernel, by decide +kernel⟩, List.mem_of_getElem? (i := 719) (by decide +kernel), List.mem_of_getElem? (i := 876) (by decide +kernel), List.mem_of_getElem? (i := 877) (by decide +kernel)⟩
theorem lw_p38 : lw_okq (⟨"PoundBeastsModel", "shutOn", "(III)V"⟩, 22) := ⟨⟨by decide +kernel, by decide +kernel⟩, List.mem_of_getElem? (i := 719) (by decide +kernel), List.mem_of_getElem? (i := 880) (by decide +kernel), List.mem_of_getElem? (i := 881) (by decide +kernel)⟩
theorem lw_p39 : lw_okq (⟨"PoundBeastsModel", "addOn", "(IIII)V"⟩, 22) := ⟨⟨by decide +kernel, by decide +kernel⟩, List.mem_of_getElem? (i := 719) (by decide +kernel), List.mem_of_getElem? (i := 884) (by decide +kernel), List.mem_of_getElem? (i := 885) (by decide +kernel)⟩
theorem lw_p40 : lw_okq (⟨"PoundBeastsModel", "passOn", "(I)V"⟩, 22) := ⟨⟨by decide +kernel, by decide +kernel⟩, List.mem_of_getElem? (i := 719) (by decide +kernel), List.mem_of_getElem? (i := 892) (by decide +kernel), List.mem_of_getElem? (i := 893) (by decide +kernel)⟩
theorem lw_p41 : lw_okq (⟨"PoundBeastsModel", "feedOn", "(II)V"⟩, 22) := ⟨⟨by decide +kernel, by decide +kernel⟩, List.mem_of_getElem? (i := 719) (by decide +kernel), List.mem_of_getElem? (i := 896) (by decide +kernel), List.mem_of_getElem? (i := 897) (by decide +kernel)⟩
theorem lw_p42 : lw_okq (⟨"PoundBeastsModel", "shutNow", "()I"⟩, 22) := ⟨⟨by decide +kernel, by decide +kernel⟩, List.mem_of_getElem? (i := 719) (by decide +kernel), List.mem_of_getElem? (i := 900) (by decide +kernel), List.mem_of_getElem? (i := 901) (by decide +kernel)⟩
theorem lw_p43 : lw_okq (⟨"PoundBeastsModel", "breakOn", "(II)V"⟩, 22) := ⟨⟨by decide +kernel, by decide +kernel⟩, List.mem_of_getElem? (i := 719) (by decide +kernel), List.mem_of_getElem? (i := 915) (by decide +kernel), List.mem_of_getElem? (i := 916) (by decide +kernel)⟩
theorem lw_p44 : lw_okq (⟨"PoundBeastsModel", "canKeep", "(II)Z"⟩, 22) := ⟨⟨by decide +kernel, by decide +kernel⟩, List.mem_of_getElem? (i := 719) (by decide +kernel), List.mem_of_getElem? (i := 923) (by decide +kernel), List.mem_of_getElem? (i := 924) (by decide +kernel)⟩
theorem lw_p45 : lw_okq (⟨"PoundBeastsModel", "keepOn", "(II)V"⟩, 22) := ⟨⟨by decide +kernel, by decide +kernel⟩, List.mem_of_getElem? (i := 719) (by decide +kernel), List.mem_of_getElem? (i := 927) (by decide +kernel), List.mem_of_getElem? (i := 928) (by decide +kernel)⟩
theorem lw_p46 : lw_okq (⟨"PoundBeastsModel", "layTrial", "()V"⟩, 22) := ⟨⟨by decide +kernel, by decide +kernel⟩, List.mem_of_getElem? (i := 719) (by decide +kernel), List.mem_of_getElem? (i := 943) (by decide +kernel), List.mem_of_getElem? (i := 944) (by decide +kernel)⟩
theorem lw_p47 : lw_okq (⟨"PoundBeastsModel", "owedIf", "(III)I"⟩, 22) := ⟨⟨by decide +kernel, by decide +kernel⟩, List.mem_of_getElem? (i := 719) (by decide +kernel), List.mem_of_getElem? (i := 951) (by decide +kernel), List.mem_of_getElem? (i := 952) (by decide +kernel)⟩
def lw_privs_3 : List (MethodName × Nat) := [(⟨"PoundBeastsModel", "figureOf", "(I)I"⟩, 22), (⟨"PoundBeastsModel", "isPerson", "(I)Z"⟩, 22), (⟨"PoundBeastsModel", "isBeast", "(I)Z"⟩, 22), (⟨"PoundBeastsModel", "clauseOn", "(III)I"⟩, 22), (⟨"PoundBeastsModel", "isIn", "(II)Z"⟩, 22), (⟨"PoundBeastsModel", "keepAct", "()V"⟩, 22), (⟨"PoundBeastsModel", "shutOn", "(III)V"⟩, 22), (⟨"PoundBeastsModel", "addOn", "(IIII)V"⟩, 22), (⟨"PoundBeastsModel", "passOn", "(I)V"⟩, 22), (⟨"PoundBeastsModel", "feedOn", "(II)V"⟩, 22), (⟨"PoundBeastsModel", "shutNow", "()I"⟩, 22), (⟨"PoundBeastsModel", "breakOn", "(II)V"⟩, 22), (⟨"PoundBeastsModel", "canKeep", "(II)Z"⟩, 22), (⟨"PoundBeastsModel", "keepOn", "(II)V"⟩, 22), (⟨"PoundBeastsModel", "layTrial", "()V"⟩, 22), (⟨"PoundBeastsModel", "owedIf", "(III)I"⟩, 22)]
theorem lw_r3 : ∀ q ∈ lw_privs_3, lw_okq q := List.forall_mem_cons.mpr ⟨lw_p32, List.forall_mem_cons.mpr ⟨lw_p33, List.forall_mem_cons.mpr ⟨lw_p34, List.forall_mem_cons.mpr ⟨lw_p35, List.forall_mem_cons.mpr ⟨lw_p36, List.forall_mem_cons.mpr ⟨lw_p37, List.forall_mem_cons.mpr ⟨lw_p38, List.forall_mem_cons.mpr ⟨lw_p39, List.forall_mem_cons.mpr ⟨lw_p40, List.forall_mem_cons.mpr ⟨lw_p41, List.forall_mem_cons.mpr ⟨lw_p42, List.forall_mem_cons.mpr ⟨lw_p43, List.forall_mem_cons.mpr ⟨lw_p44, List.forall_mem_cons.mpr ⟨lw_p45, List.forall_mem_cons.mpr ⟨lw_p46, List.forall_mem_cons.mpr ⟨lw_p47, fun _ h => absurd h List.not_mem_nil⟩⟩⟩⟩⟩⟩⟩⟩⟩⟩⟩⟩⟩⟩⟩⟩
theorem lw_p48 : lw_okq (⟨"PoundBeastsModel", "mostBy", "(I)I"⟩, 22) := ⟨⟨by decide +kernel, by decide +kernel⟩, List.mem_of_getElem? (i := 719) (by decide +kernel), List.mem_of_getElem? (i := 959) (by decide +kernel), List.mem_of_getElem? (i := 960) (by decide +kernel)⟩
theorem lw_p49 : lw_okq (⟨"PoundBeastsModel", "getBy", "(II)I"⟩, 22) := ⟨⟨by decide +kernel, by decide +kernel⟩, List.mem_of_getElem? (i := 719) (by decide +kernel), List.mem_of_getElem? (i := 966) (by decide +kernel), List.mem_of_getElem? (i := 967) (by decide +kernel)⟩
theorem lw_p50 : lw_okq (⟨"PoundBeastsModel", "wayOf", "(I)I"⟩, 22) := ⟨⟨by decide +kernel, by decide +kernel⟩, List.mem_of_getElem? (i := 719) (by decide +kernel), List.mem_of_getElem? (i := 970) (by decide +kernel), List.mem_of_getElem? (i := 971) (by decide +kernel)⟩
theorem lw_p51 : lw_okq (⟨"PoundBeastsModel", "layRing", "(I)I"⟩, 22) := ⟨⟨by decide +kernel, by decide +kernel⟩, List.mem_of_getElem? (i := 719) (by decide +kernel), List.mem_of_getElem? (i := 988) (by decide +kernel), List.mem_of_getElem? (i := 989) (by decide +kernel)⟩
theorem lw_p52 : lw_okq (⟨"PoundBeastsModel", "leastOf", "(III)I"⟩, 22) := ⟨⟨by decide +kernel, by decide +kernel⟩, List.mem_of_getElem? (i := 719) (by decide +kernel), List.mem_of_getElem? (i := 992) (by decide +kernel), List.mem_of_getElem? (i := 993) (by decide +kernel)⟩
theorem lw_p53 : lw_okq (⟨"PoundBeastsModel", "tryThing", "(I)Z"⟩, 22) := ⟨⟨by decide +kernel, by decide +kernel⟩, List.mem_of_getElem? (i := 719) (by decide +kernel), List.mem_of_getElem? (i := 1010) (by decide +kernel), List.mem_of_getElem? (i := 1011) (by decide +kernel)⟩
theorem lw_p54 : lw_okq (⟨"PoundBeastsModel", "mayTake", "(II)I"⟩, 22) := ⟨⟨by decide +kernel, by decide +kernel⟩, List.mem_of_getElem? (i := 719) (by decide +kernel), List.mem_of_getElem? (i := 1018) (by decide +kernel), List.mem_of_getElem? (i := 1019) (by decide +kernel)⟩
theorem lw_p55 : lw_okq (⟨"PoundBeastsModel", "areSuspects", "(II)Z"⟩, 22) := ⟨⟨by decide +kernel, by decide +kernel⟩, List.mem_of_getElem? (i := 719) (by decide +kernel), List.mem_of_getElem? (i := 1027) (by decide +kernel), List.mem_of_getElem? (i := 1028) (by decide +kernel)⟩
theorem lw_p56 : lw_okq (⟨"PoundBeastsModel", "layGains", "(II)V"⟩, 22) := ⟨⟨by decide +kernel, by decide +kernel⟩, List.mem_of_getElem? (i := 719) (by decide +kernel), List.mem_of_getElem? (i := 1035) (by decide +kernel), List.mem_of_getElem? (i := 1036) (by decide +kernel)⟩
theorem lw_p57 : lw_okq (⟨"PoundBeastsModel", "isRest", "(III)Z"⟩, 22) := ⟨⟨by decide +kernel, by decide +kernel⟩, List.mem_of_getElem? (i := 719) (by decide +kernel), List.mem_of_getElem? (i := 1039) (by decide +kernel), List.mem_of_getElem? (i := 1040) (by decide +kernel)⟩
theorem lw_p58 : lw_okq (⟨"PoundBeastsModel", "isChoice", "(III)Z"⟩, 22) := ⟨⟨by decide +kernel, by decide +kernel⟩, List.mem_of_getElem? (i := 719) (by decide +kernel), List.mem_of_getElem? (i := 1043) (by decide +kernel), List.mem_of_getElem? (i := 1044) (by decide +kernel)⟩
theorem lw_p59 : lw_okq (⟨"PoundBeastsModel", "allOwed", "(I)I"⟩, 22) := ⟨⟨by decide +kernel, by decide +kernel⟩, List.mem_of_getElem? (i := 719) (by decide +kernel), List.mem_of_getElem? (i := 1063) (by decide +kernel), List.mem_of_getElem? (i := 1064) (by decide +kernel)⟩
def lw_privs_4 : List (MethodName × Nat) := [(⟨"PoundBeastsModel", "mostBy", "(I)I"⟩, 22), (⟨"PoundBeastsModel", "getBy", "(II)I"⟩, 22), (⟨"PoundBeastsModel", "wayOf", "(I)I"⟩, 22), (⟨"PoundBeastsModel", "layRing", "(I)I"⟩, 22), (⟨"PoundBeastsModel", "leastOf", "(III)I"⟩, 22), (⟨"PoundBeastsModel", "tryThing", "(I)Z"⟩, 22), (⟨"PoundBeastsModel", "mayTake", "(II)I"⟩, 22), (⟨"PoundBeastsModel", "areSuspects", "(II)Z"⟩, 22), (⟨"PoundBeastsModel", "layGains", "(II)V"⟩, 22), (⟨"PoundBeastsModel", "isRest", "(III)Z"⟩, 22), (⟨"PoundBeastsModel", "isChoice", "(III)Z"⟩, 22), (⟨"PoundBeastsModel", "allOwed", "(I)I"⟩, 22)]
theorem lw_r4 : ∀ q ∈ lw_privs_4, lw_okq q := List.forall_mem_cons.mpr ⟨lw_p48, List.forall_mem_cons.mpr ⟨lw_p49, List.forall_mem_cons.mpr ⟨lw_p50, List.forall_mem_cons.mpr ⟨lw_p51, List.forall_mem_cons.mpr ⟨lw_p52, List.forall_mem_cons.mpr ⟨lw_p53, List.forall_mem_cons.mpr ⟨lw_p54, List.forall_mem_cons.mpr ⟨lw_p55, List.forall_mem_cons.mpr ⟨lw_p56, List.forall_mem_cons.mpr ⟨lw_p57, List.forall_mem_cons.mpr ⟨lw_p58, List.forall_mem_cons.mpr ⟨lw_p59, fun _ h => absurd h List.not_mem_nil⟩⟩⟩⟩⟩⟩⟩⟩⟩⟩⟩⟩
def lw_privs : List (MethodName × Nat) := lw_privs_1 ++ (lw_privs_2 ++ (lw_privs_3 ++ (lw_privs_4)))
def lw_tbl : List Cond := k2_sels lw_privs ++ tables_1
theorem lw_privs_ok : ∀ q ∈ lw_privs, lw_okq q := by
  show ∀ q ∈ lw_privs_1 ++ (lw_privs_2 ++ (lw_privs_3 ++ (lw_privs_4))), lw_okq q
  exact List.forall_mem_append.mpr ⟨lw_r1, List.forall_mem_append.mpr ⟨lw_r2, List.forall_mem_append.mpr ⟨lw_r3, lw_r4⟩⟩⟩

def RX0 : String := "PoundBeasts$Acts"
def TX0 : u_T := fun k => match k with
  | 0 => ("PoundBeasts$Acts", "before", "[I", true)
  | 1 => ("PoundBeasts$Acts", "size", "I", false)
  | _ => ("PoundBeasts$Acts", "next", "I", false)
def tyX0 : Nat → FieldType := fun k => match k with
  | 0 => .array .int
  | 1 => .int
  | _ => .int
theorem nmX0 : ∀ a, a < 3 → ∀ b, b < 3 → a ≠ b → (TX0 a).2.1 ≠ (TX0 b).2.1 := by decide +kernel
theorem tyX0_ok : ∀ k, k < 3 → parseFieldDescriptor (TX0 k).2.2.1 = some (tyX0 k) := by decide +kernel
abbrev cX0_init : ByteArray := prog_2_method_1_code
def yX0_init : MethodName := ⟨RX0, "<init>", "()V"⟩
abbrev cX0_size : ByteArray := prog_2_method_2_code
def yX0_size : MethodName := ⟨RX0, "size", "()I"⟩
abbrev cX0_clear : ByteArray := prog_2_method_3_code
def yX0_clear : MethodName := ⟨RX0, "clear", "()V"⟩
abbrev cX0_remember : ByteArray := prog_2_method_4_code
def yX0_remember : MethodName := ⟨RX0, "remember", "(LPoundBeasts$Village;)V"⟩
abbrev cX0_takeBack : ByteArray := prog_2_method_5_code
def yX0_takeBack : MethodName := ⟨RX0, "takeBack", "(LPoundBeasts$Village;)Z"⟩
def RX1 : String := "PoundBeasts$Bargain"
def TX1 : u_T := fun k => match k with
  | 0 => ("PoundBeasts$Bargain", "worths", "[I", true)
  | 1 => ("PoundBeasts$Bargain", "debt", "I", false)
  | 2 => ("PoundBeasts$Bargain", "mostPaid", "I", false)
  | 3 => ("PoundBeasts$Bargain", "takable", "I", false)
  | 4 => ("PoundBeasts$Bargain", "rests", "I", false)
  | _ => ("PoundBeasts$Bargain", "first", "I", false)
def tyX1 : Nat → FieldType := fun k => match k with
  | 0 => .array .int
  | 1 => .int
  | 2 => .int
  | 3 => .int
  | 4 => .int
  | _ => .int
theorem nmX1 : ∀ a, a < 6 → ∀ b, b < 6 → a ≠ b → (TX1 a).2.1 ≠ (TX1 b).2.1 := by decide +kernel
theorem tyX1_ok : ∀ k, k < 6 → parseFieldDescriptor (TX1 k).2.2.1 = some (tyX1 k) := by decide +kernel
abbrev cX1_init : ByteArray := prog_3_method_1_code
def yX1_init : MethodName := ⟨RX1, "<init>", "()V"⟩
abbrev cX1_settle : ByteArray := prog_3_method_2_code
def yX1_settle : MethodName := ⟨RX1, "settle", "(LPoundBeasts$Village;II)V"⟩
abbrev cX1_howMany : ByteArray := prog_3_method_3_code
def yX1_howMany : MethodName := ⟨RX1, "howMany", "()I"⟩
abbrev cX1_first : ByteArray := prog_3_method_4_code
def yX1_first : MethodName := ⟨RX1, "first", "()I"⟩
abbrev cX1_isOpen : ByteArray := prog_3_method_5_code
def yX1_isOpen : MethodName := ⟨RX1, "isOpen", "(I)Z"⟩
abbrev cX1_ownerRests : ByteArray := prog_3_method_6_code
def yX1_ownerRests : MethodName := ⟨RX1, "ownerRests", "(II)Z"⟩
abbrev cX1_creditorRests : ByteArray := prog_3_method_7_code
def yX1_creditorRests : MethodName := ⟨RX1, "creditorRests", "(II)Z"⟩
abbrev cX1_cost : ByteArray := prog_3_method_8_code
def yX1_cost : MethodName := ⟨RX1, "cost", "(II)I"⟩
abbrev cX1_gain : ByteArray := prog_3_method_9_code
def yX1_gain : MethodName := ⟨RX1, "gain", "(II)I"⟩
def RX2 : String := "PoundBeasts$Matching"
def TX2 : u_T := fun k => match k with
  | 0 => ("PoundBeasts$Matching", "takable", "[I", true)
  | _ => ("PoundBeasts$Matching", "people", "I", false)
def tyX2 : Nat → FieldType := fun k => match k with
  | 0 => .array .int
  | _ => .int
theorem nmX2 : ∀ a, a < 2 → ∀ b, b < 2 → a ≠ b → (TX2 a).2.1 ≠ (TX2 b).2.1 := by decide +kernel
theorem tyX2_ok : ∀ k, k < 2 → parseFieldDescriptor (TX2 k).2.2.1 = some (tyX2 k) := by decide +kernel
abbrev cX2_init : ByteArray := prog_4_method_1_code
def yX2_init : MethodName := ⟨RX2, "<init>", "()V"⟩
abbrev cX2_look : ByteArray := prog_4_method_2_code
def yX2_look : MethodName := ⟨RX2, "look", "(LPoundBeasts$Village;)V"⟩
abbrev cX2_everybody : ByteArray := prog_4_method_3_code
def yX2_everybody : MethodName := ⟨RX2, "everybody", "()I"⟩
abbrev cX2_takableByAny : ByteArray := prog_4_method_4_code
def yX2_takableByAny : MethodName := ⟨RX2, "takableByAny", "(I)I"⟩
abbrev cX2_allTakeSome : ByteArray := prog_4_method_5_code
def yX2_allTakeSome : MethodName := ⟨RX2, "allTakeSome", "(II)Z"⟩
abbrev cX2_most : ByteArray := prog_4_method_6_code
def yX2_most : MethodName := ⟨RX2, "most", "()I"⟩
abbrev cX2_mostOf : ByteArray := prog_4_method_7_code
def yX2_mostOf : MethodName := ⟨RX2, "mostOf", "(II)I"⟩
abbrev cX2_firstWay : ByteArray := prog_4_method_8_code
def yX2_firstWay : MethodName := ⟨RX2, "firstWay", "()I"⟩
abbrev cX2_firstChoice : ByteArray := prog_4_method_9_code
def yX2_firstChoice : MethodName := ⟨RX2, "firstChoice", "(III)I"⟩
abbrev cX2_orders : ByteArray := prog_4_method_10_code
def yX2_orders : MethodName := ⟨RX2, "orders", "()I"⟩
abbrev cX2_ordersWithGain : ByteArray := prog_4_method_11_code
def yX2_ordersWithGain : MethodName := ⟨RX2, "ordersWithGain", "(I)I"⟩
def RX3 : String := "PoundBeasts$Rings"
def TX3 : u_T := fun k => match k with
  | 0 => ("PoundBeasts$Rings", "leading", "[I", true)
  | 1 => ("PoundBeasts$Rings", "members", "[I", true)
  | _ => ("PoundBeasts$Rings", "size", "I", false)
def tyX3 : Nat → FieldType := fun k => match k with
  | 0 => .array .int
  | 1 => .array .int
  | _ => .int
theorem nmX3 : ∀ a, a < 3 → ∀ b, b < 3 → a ≠ b → (TX3 a).2.1 ≠ (TX3 b).2.1 := by decide +kernel
theorem tyX3_ok : ∀ k, k < 3 → parseFieldDescriptor (TX3 k).2.2.1 = some (tyX3 k) := by decide +kernel
abbrev cX3_init : ByteArray := prog_5_method_1_code
def yX3_init : MethodName := ⟨RX3, "<init>", "()V"⟩
abbrev cX3_find : ByteArray := prog_5_method_2_code
def yX3_find : MethodName := ⟨RX3, "find", "(LPoundBeasts$Village;I)Z"⟩
abbrev cX3_debtorsOf : ByteArray := prog_5_method_3_code
def yX3_debtorsOf : MethodName := ⟨RX3, "debtorsOf", "(LPoundBeasts$Village;I)I"⟩
abbrev cX3_owesOneOf : ByteArray := prog_5_method_4_code
def yX3_owesOneOf : MethodName := ⟨RX3, "owesOneOf", "(LPoundBeasts$Village;II)Z"⟩
abbrev cX3_follow : ByteArray := prog_5_method_5_code
def yX3_follow : MethodName := ⟨RX3, "follow", "(LPoundBeasts$Village;II)V"⟩
abbrev cX3_firstCreditor : ByteArray := prog_5_method_6_code
def yX3_firstCreditor : MethodName := ⟨RX3, "firstCreditor", "(LPoundBeasts$Village;II)I"⟩
abbrev cX3_figures : ByteArray := prog_5_method_7_code
def yX3_figures : MethodName := ⟨RX3, "figures", "()I"⟩
abbrev cX3_leastDebt : ByteArray := prog_5_method_8_code
def yX3_leastDebt : MethodName := ⟨RX3, "leastDebt", "(LPoundBeasts$Village;)I"⟩
def RX4 : String := "PoundBeasts$Script"
def TX4 : u_T := fun k => match k with
  | 0 => ("PoundBeasts$Script", "letters", "[I", true)
  | 1 => ("PoundBeasts$Script", "figures", "[I", true)
  | _ => ("PoundBeasts$Script", "length", "I", false)
def tyX4 : Nat → FieldType := fun k => match k with
  | 0 => .array .int
  | 1 => .array .int
  | _ => .int
theorem nmX4 : ∀ a, a < 3 → ∀ b, b < 3 → a ≠ b → (TX4 a).2.1 ≠ (TX4 b).2.1 := by decide +kernel
theorem tyX4_ok : ∀ k, k < 3 → parseFieldDescriptor (TX4 k).2.2.1 = some (tyX4 k) := by decide +kernel
abbrev cX4_init : ByteArray := prog_6_method_1_code
def yX4_init : MethodName := ⟨RX4, "<init>", "()V"⟩
abbrev cX4_length : ByteArray := prog_6_method_2_code
def yX4_length : MethodName := ⟨RX4, "length", "()I"⟩
abbrev cX4_clear : ByteArray := prog_6_method_3_code
def yX4_clear : MethodName := ⟨RX4, "clear", "()V"⟩
abbrev cX4_append : ByteArray := prog_6_method_4_code
def yX4_append : MethodName := ⟨RX4, "append", "(I)Z"⟩
abbrev cX4_readInto : ByteArray := prog_6_method_5_code
def yX4_readInto : MethodName := ⟨RX4, "readInto", "(LPoundBeasts$Village;)I"⟩
abbrev cX4_readPart : ByteArray := prog_6_method_6_code
def yX4_readPart : MethodName := ⟨RX4, "readPart", "(LPoundBeasts$Village;I)I"⟩
abbrev cX4_figuresOf : ByteArray := prog_6_method_7_code
def yX4_figuresOf : MethodName := ⟨RX4, "figuresOf", "(I)I"⟩
abbrev cX4_canBegin : ByteArray := prog_6_method_8_code
def yX4_canBegin : MethodName := ⟨RX4, "canBegin", "(LPoundBeasts$Village;I)Z"⟩
abbrev cX4_figureFits : ByteArray := prog_6_method_9_code
def yX4_figureFits : MethodName := ⟨RX4, "figureFits", "(LPoundBeasts$Village;II)Z"⟩
abbrev cX4_beastFigureFits : ByteArray := prog_6_method_10_code
def yX4_beastFigureFits : MethodName := ⟨RX4, "beastFigureFits", "(LPoundBeasts$Village;II)Z"⟩
abbrev cX4_debtFigureFits : ByteArray := prog_6_method_11_code
def yX4_debtFigureFits : MethodName := ⟨RX4, "debtFigureFits", "(LPoundBeasts$Village;II)Z"⟩
abbrev cX4_somePairIsLeft : ByteArray := prog_6_method_12_code
def yX4_somePairIsLeft : MethodName := ⟨RX4, "somePairIsLeft", "(LPoundBeasts$Village;)Z"⟩
abbrev cX4_somePairIsLeftOf : ByteArray := prog_6_method_13_code
def yX4_somePairIsLeftOf : MethodName := ⟨RX4, "somePairIsLeftOf", "(LPoundBeasts$Village;I)Z"⟩
abbrev cX4_tell : ByteArray := prog_6_method_14_code
def yX4_tell : MethodName := ⟨RX4, "tell", "(LPoundBeasts$Village;I)V"⟩
def RX5 : String := "PoundBeasts$Village"
def TX5 : u_T := fun k => match k with
  | _ => ("PoundBeasts$Village", "cells", "[I", true)
def tyX5 : Nat → FieldType := fun k => match k with
  | _ => .array .int
theorem nmX5 : ∀ a, a < 1 → ∀ b, b < 1 → a ≠ b → (TX5 a).2.1 ≠ (TX5 b).2.1 := by decide +kernel
theorem tyX5_ok : ∀ k, k < 1 → parseFieldDescriptor (TX5 k).2.2.1 = some (tyX5 k) := by decide +kernel
abbrev cX5_init : ByteArray := prog_7_method_1_code
def yX5_init : MethodName := ⟨RX5, "<init>", "()V"⟩
abbrev cX5_clear : ByteArray := prog_7_method_2_code
def yX5_clear : MethodName := ⟨RX5, "clear", "()V"⟩
abbrev cX5_copyFrom : ByteArray := prog_7_method_3_code
def yX5_copyFrom : MethodName := ⟨RX5, "copyFrom", "(LPoundBeasts$Village;)V"⟩
abbrev cX5_store : ByteArray := prog_7_method_4_code
def yX5_store : MethodName := ⟨RX5, "store", "([II)V"⟩
abbrev cX5_fetch : ByteArray := prog_7_method_5_code
def yX5_fetch : MethodName := ⟨RX5, "fetch", "([II)V"⟩
abbrev cX5_people : ByteArray := prog_7_method_6_code
def yX5_people : MethodName := ⟨RX5, "people", "()I"⟩
abbrev cX5_beasts : ByteArray := prog_7_method_7_code
def yX5_beasts : MethodName := ⟨RX5, "beasts", "()I"⟩
abbrev cX5_dayNow : ByteArray := prog_7_method_8_code
def yX5_dayNow : MethodName := ⟨RX5, "dayNow", "()I"⟩
abbrev cX5_hasPerson : ByteArray := prog_7_method_9_code
def yX5_hasPerson : MethodName := ⟨RX5, "hasPerson", "(I)Z"⟩
abbrev cX5_hasBeast : ByteArray := prog_7_method_10_code
def yX5_hasBeast : MethodName := ⟨RX5, "hasBeast", "(I)Z"⟩
abbrev cX5_hayOf : ByteArray := prog_7_method_11_code
def yX5_hayOf : MethodName := ⟨RX5, "hayOf", "(I)I"⟩
abbrev cX5_moneyOf : ByteArray := prog_7_method_12_code
def yX5_moneyOf : MethodName := ⟨RX5, "moneyOf", "(I)I"⟩
abbrev cX5_debt : ByteArray := prog_7_method_13_code
def yX5_debt : MethodName := ⟨RX5, "debt", "(II)I"⟩
abbrev cX5_isPairLeft : ByteArray := prog_7_method_14_code
def yX5_isPairLeft : MethodName := ⟨RX5, "isPairLeft", "(II)Z"⟩
abbrev cX5_ownerOf : ByteArray := prog_7_method_15_code
def yX5_ownerOf : MethodName := ⟨RX5, "ownerOf", "(I)I"⟩
abbrev cX5_worthOf : ByteArray := prog_7_method_16_code
def yX5_worthOf : MethodName := ⟨RX5, "worthOf", "(I)I"⟩
abbrev cX5_kindOf : ByteArray := prog_7_method_17_code
def yX5_kindOf : MethodName := ⟨RX5, "kindOf", "(I)I"⟩
abbrev cX5_holderOf : ByteArray := prog_7_method_18_code
def yX5_holderOf : MethodName := ⟨RX5, "holderOf", "(I)I"⟩
abbrev cX5_daysOf : ByteArray := prog_7_method_19_code
def yX5_daysOf : MethodName := ⟨RX5, "daysOf", "(I)I"⟩
abbrev cX5_isDead : ByteArray := prog_7_method_20_code
def yX5_isDead : MethodName := ⟨RX5, "isDead", "(I)Z"⟩
abbrev cX5_isShut : ByteArray := prog_7_method_21_code
def yX5_isShut : MethodName := ⟨RX5, "isShut", "(I)Z"⟩
abbrev cX5_isRipe : ByteArray := prog_7_method_22_code
def yX5_isRipe : MethodName := ⟨RX5, "isRipe", "(I)Z"⟩
abbrev cX5_beastsOf : ByteArray := prog_7_method_23_code
def yX5_beastsOf : MethodName := ⟨RX5, "beastsOf", "(I)I"⟩
abbrev cX5_shutBeasts : ByteArray := prog_7_method_24_code
def yX5_shutBeasts : MethodName := ⟨RX5, "shutBeasts", "()I"⟩
abbrev cX5_deadBeasts : ByteArray := prog_7_method_25_code
def yX5_deadBeasts : MethodName := ⟨RX5, "deadBeasts", "()I"⟩
abbrev cX5_takableBy : ByteArray := prog_7_method_26_code
def yX5_takableBy : MethodName := ⟨RX5, "takableBy", "(I)I"⟩
abbrev cX5_owedBy : ByteArray := prog_7_method_27_code
def yX5_owedBy : MethodName := ⟨RX5, "owedBy", "(I)I"⟩
abbrev cX5_owedTo : ByteArray := prog_7_method_28_code
def yX5_owedTo : MethodName := ⟨RX5, "owedTo", "(I)I"⟩
abbrev cX5_owedByAll : ByteArray := prog_7_method_29_code
def yX5_owedByAll : MethodName := ⟨RX5, "owedByAll", "()I"⟩
abbrev cX5_clauseFor : ByteArray := prog_7_method_30_code
def yX5_clauseFor : MethodName := ⟨RX5, "clauseFor", "(II)I"⟩
abbrev cX5_isMarch : ByteArray := prog_7_method_31_code
def yX5_isMarch : MethodName := ⟨RX5, "isMarch", "()Z"⟩
abbrev cX5_addPerson : ByteArray := prog_7_method_32_code
def yX5_addPerson : MethodName := ⟨RX5, "addPerson", "(II)V"⟩
abbrev cX5_addBeast : ByteArray := prog_7_method_33_code
def yX5_addBeast : MethodName := ⟨RX5, "addBeast", "(III)V"⟩
abbrev cX5_addDebt : ByteArray := prog_7_method_34_code
def yX5_addDebt : MethodName := ⟨RX5, "addDebt", "(III)V"⟩
abbrev cX5_lessenDebt : ByteArray := prog_7_method_35_code
def yX5_lessenDebt : MethodName := ⟨RX5, "lessenDebt", "(III)V"⟩
abbrev cX5_oweNow : ByteArray := prog_7_method_36_code
def yX5_oweNow : MethodName := ⟨RX5, "oweNow", "(III)V"⟩
abbrev cX5_shutIn : ByteArray := prog_7_method_37_code
def yX5_shutIn : MethodName := ⟨RX5, "shutIn", "(II)V"⟩
abbrev cX5_goHome : ByteArray := prog_7_method_38_code
def yX5_goHome : MethodName := ⟨RX5, "goHome", "(I)V"⟩
abbrev cX5_passDay : ByteArray := prog_7_method_39_code
def yX5_passDay : MethodName := ⟨RX5, "passDay", "()V"⟩
abbrev cX5_feed : ByteArray := prog_7_method_40_code
def yX5_feed : MethodName := ⟨RX5, "feed", "(I)V"⟩
abbrev cX5_payDebt : ByteArray := prog_7_method_41_code
def yX5_payDebt : MethodName := ⟨RX5, "payDebt", "(III)V"⟩
abbrev cX5_sendHome : ByteArray := prog_7_method_42_code
def yX5_sendHome : MethodName := ⟨RX5, "sendHome", "(II)V"⟩
abbrev cX5_runHome : ByteArray := prog_7_method_43_code
def yX5_runHome : MethodName := ⟨RX5, "runHome", "(I)V"⟩
abbrev cX5_handOver : ByteArray := prog_7_method_44_code
def yX5_handOver : MethodName := ⟨RX5, "handOver", "(I)V"⟩
def RX6 : String := "PoundBeasts"
def TX6 : u_T := fun k => match k with
  | 0 => ("PoundBeasts", "script", "LPoundBeasts$Script;", true)
  | 1 => ("PoundBeasts", "village", "LPoundBeasts$Village;", true)
  | 2 => ("PoundBeasts", "trial", "LPoundBeasts$Village;", true)
  | 3 => ("PoundBeasts", "acts", "LPoundBeasts$Acts;", true)
  | 4 => ("PoundBeasts", "matching", "LPoundBeasts$Matching;", true)
  | 5 => ("PoundBeasts", "rings", "LPoundBeasts$Rings;", true)
  | 6 => ("PoundBeasts", "bargain", "LPoundBeasts$Bargain;", true)
  | 7 => ("PoundBeasts", "slots", "[I", true)
  | 8 => ("PoundBeasts", "things", "[I", true)
  | 9 => ("PoundBeasts", "keptSlots", "I", false)
  | _ => ("PoundBeasts", "seed", "J", false)
def tyX6 : Nat → FieldType := fun k => match k with
  | 0 => .object "PoundBeasts$Script"
  | 1 => .object "PoundBeasts$Village"
  | 2 => .object "PoundBeasts$Village"
  | 3 => .object "PoundBeasts$Acts"
  | 4 => .object "PoundBeasts$Matching"
  | 5 => .object "PoundBeasts$Rings"
  | 6 => .object "PoundBeasts$Bargain"
  | 7 => .array .int
  | 8 => .array .int
  | 9 => .int
  | _ => .long
theorem nmX6 : ∀ a, a < 11 → ∀ b, b < 11 → a ≠ b → (TX6 a).2.1 ≠ (TX6 b).2.1 := by decide +kernel
theorem tyX6_ok : ∀ k, k < 11 → parseFieldDescriptor (TX6 k).2.2.1 = some (tyX6 k) := by decide +kernel
abbrev cX6_init : ByteArray := prog_1_method_1_code
def yX6_init : MethodName := ⟨RX6, "<init>", "()V"⟩
abbrev cX6_write : ByteArray := prog_1_method_2_code
def yX6_write : MethodName := ⟨RX6, "write", "(I)I"⟩
abbrev cX6_wipe : ByteArray := prog_1_method_3_code
def yX6_wipe : MethodName := ⟨RX6, "wipe", "()I"⟩
abbrev cX6_fault : ByteArray := prog_1_method_4_code
def yX6_fault : MethodName := ⟨RX6, "fault", "()I"⟩
abbrev cX6_village : ByteArray := prog_1_method_5_code
def yX6_village : MethodName := ⟨RX6, "village", "()I"⟩
abbrev cX6_person : ByteArray := prog_1_method_6_code
def yX6_person : MethodName := ⟨RX6, "person", "(II)I"⟩
abbrev cX6_beast : ByteArray := prog_1_method_7_code
def yX6_beast : MethodName := ⟨RX6, "beast", "(II)I"⟩
abbrev cX6_owes : ByteArray := prog_1_method_8_code
def yX6_owes : MethodName := ⟨RX6, "owes", "(II)I"⟩
abbrev cX6_drive : ByteArray := prog_1_method_9_code
def yX6_drive : MethodName := ⟨RX6, "drive", "(II)I"⟩
abbrev cX6_day : ByteArray := prog_1_method_10_code
def yX6_day : MethodName := ⟨RX6, "day", "()I"⟩
abbrev cX6_pay : ByteArray := prog_1_method_11_code
def yX6_pay : MethodName := ⟨RX6, "pay", "(III)I"⟩
abbrev cX6_breakOut : ByteArray := prog_1_method_12_code
def yX6_breakOut : MethodName := ⟨RX6, "breakOut", "(I)I"⟩
abbrev cX6_forfeit : ByteArray := prog_1_method_13_code
def yX6_forfeit : MethodName := ⟨RX6, "forfeit", "(I)I"⟩
abbrev cX6_undo : ByteArray := prog_1_method_14_code
def yX6_undo : MethodName := ⟨RX6, "undo", "()I"⟩
abbrev cX6_clause : ByteArray := prog_1_method_15_code
def yX6_clause : MethodName := ⟨RX6, "clause", "(II)I"⟩
abbrev cX6_worth : ByteArray := prog_1_method_16_code
def yX6_worth : MethodName := ⟨RX6, "worth", "(II)I"⟩
abbrev cX6_take : ByteArray := prog_1_method_17_code
def yX6_take : MethodName := ⟨RX6, "take", "(IIZ)I"⟩
abbrev cX6_each : ByteArray := prog_1_method_18_code
def yX6_each : MethodName := ⟨RX6, "each", "(Z)I"⟩
abbrev cX6_share : ByteArray := prog_1_method_19_code
def yX6_share : MethodName := ⟨RX6, "share", "(IZ)I"⟩
abbrev cX6_ring : ByteArray := prog_1_method_20_code
def yX6_ring : MethodName := ⟨RX6, "ring", "(I)I"⟩
abbrev cX6_close : ByteArray := prog_1_method_21_code
def yX6_close : MethodName := ⟨RX6, "close", "(I)I"⟩
abbrev cX6_judge : ByteArray := prog_1_method_22_code
def yX6_judge : MethodName := ⟨RX6, "judge", "(IJ)I"⟩
abbrev cX6_who : ByteArray := prog_1_method_23_code
def yX6_who : MethodName := ⟨RX6, "who", "(I)I"⟩
abbrev cX6_suspects : ByteArray := prog_1_method_24_code
def yX6_suspects : MethodName := ⟨RX6, "suspects", "(II)I"⟩
abbrev cX6_rests : ByteArray := prog_1_method_25_code
def yX6_rests : MethodName := ⟨RX6, "rests", "(III)I"⟩
abbrev cX6_chance : ByteArray := prog_1_method_26_code
def yX6_chance : MethodName := ⟨RX6, "chance", "(IIZ)I"⟩
abbrev cX6_seed : ByteArray := prog_1_method_27_code
def yX6_seed : MethodName := ⟨RX6, "seed", "(J)J"⟩
abbrev cX6_villages : ByteArray := prog_1_method_28_code
def yX6_villages : MethodName := ⟨RX6, "villages", "(I)I"⟩
abbrev cX6_keep : ByteArray := prog_1_method_29_code
def yX6_keep : MethodName := ⟨RX6, "keep", "(I)I"⟩
abbrev cX6_again : ByteArray := prog_1_method_30_code
def yX6_again : MethodName := ⟨RX6, "again", "(I)I"⟩
abbrev cX6_count : ByteArray := prog_1_method_31_code
def yX6_count : MethodName := ⟨RX6, "count", "(I)I"⟩
abbrev cX6_has : ByteArray := prog_1_method_32_code
def yX6_has : MethodName := ⟨RX6, "has", "(II)Z"⟩
abbrev cX6_areBeasts : ByteArray := prog_1_method_33_code
def yX6_areBeasts : MethodName := ⟨RX6, "areBeasts", "(I)Z"⟩
abbrev cX6_owedAfterKeeping : ByteArray := prog_1_method_34_code
def yX6_owedAfterKeeping : MethodName := ⟨RX6, "owedAfterKeeping", "(III)I"⟩
abbrev cX6_happens : ByteArray := prog_1_method_35_code
def yX6_happens : MethodName := ⟨RX6, "happens", "(I)Z"⟩
abbrev cX6_driveIfFree : ByteArray := prog_1_method_36_code
def yX6_driveIfFree : MethodName := ⟨RX6, "driveIfFree", "(II)Z"⟩
abbrev cX6_runHomeIfShut : ByteArray := prog_1_method_37_code
def yX6_runHomeIfShut : MethodName := ⟨RX6, "runHomeIfShut", "(I)Z"⟩
abbrev cX6_keepIfRipe : ByteArray := prog_1_method_38_code
def yX6_keepIfRipe : MethodName := ⟨RX6, "keepIfRipe", "(I)Z"⟩
abbrev cX6_passTrialDay : ByteArray := prog_1_method_39_code
def yX6_passTrialDay : MethodName := ⟨RX6, "passTrialDay", "()Z"⟩
abbrev cX6_keepAllRipe : ByteArray := prog_1_method_40_code
def yX6_keepAllRipe : MethodName := ⟨RX6, "keepAllRipe", "()V"⟩
abbrev cX6_fraction : ByteArray := prog_1_method_41_code
def yX6_fraction : MethodName := ⟨RX6, "fraction", "(IIZ)I"⟩
abbrev cX6_commonDivisor : ByteArray := prog_1_method_42_code
def yX6_commonDivisor : MethodName := ⟨RX6, "commonDivisor", "(II)I"⟩
abbrev cX6_power : ByteArray := prog_1_method_43_code
def yX6_power : MethodName := ⟨RX6, "power", "(II)I"⟩
abbrev cX6_ways : ByteArray := prog_1_method_44_code
def yX6_ways : MethodName := ⟨RX6, "ways", "(II)I"⟩
def RX7 : String := "PoundBeastsModel"
def TX7 : u_T := fun k => match k with
  | 0 => ("PoundBeastsModel", "people", "I", false)
  | 1 => ("PoundBeastsModel", "beasts", "I", false)
  | 2 => ("PoundBeastsModel", "kind", "[I", true)
  | 3 => ("PoundBeastsModel", "now", "[I", true)
  | 4 => ("PoundBeastsModel", "read", "[I", true)
  | 5 => ("PoundBeastsModel", "readKind", "[I", true)
  | 6 => ("PoundBeastsModel", "readPeople", "I", false)
  | 7 => ("PoundBeastsModel", "readBeasts", "I", false)
  | 8 => ("PoundBeastsModel", "text", "[I", true)
  | 9 => ("PoundBeastsModel", "length", "I", false)
  | 10 => ("PoundBeastsModel", "at", "I", false)
  | 11 => ("PoundBeastsModel", "faultAt", "I", false)
  | 12 => ("PoundBeastsModel", "acts", "I", false)
  | 13 => ("PoundBeastsModel", "next", "I", false)
  | 14 => ("PoundBeastsModel", "row", "[I", true)
  | 15 => ("PoundBeastsModel", "bestWay", "I", false)
  | 16 => ("PoundBeastsModel", "ringLeast", "I", false)
  | 17 => ("PoundBeastsModel", "ownersGain", "[I", true)
  | 18 => ("PoundBeastsModel", "creditorsGain", "[I", true)
  | 19 => ("PoundBeastsModel", "seed", "J", false)
  | 20 => ("PoundBeastsModel", "isKept", "[Z", true)
  | _ => ("PoundBeastsModel", "kept", "[I", true)
def tyX7 : Nat → FieldType := fun k => match k with
  | 0 => .int
  | 1 => .int
  | 2 => .array .int
  | 3 => .array .int
  | 4 => .array .int
  | 5 => .array .int
  | 6 => .int
  | 7 => .int
  | 8 => .array .int
  | 9 => .int
  | 10 => .int
  | 11 => .int
  | 12 => .int
  | 13 => .int
  | 14 => .array .int
  | 15 => .int
  | 16 => .int
  | 17 => .array .int
  | 18 => .array .int
  | 19 => .long
  | 20 => .array .boolean
  | _ => .array .int
theorem nmX7 : ∀ a, a < 22 → ∀ b, b < 22 → a ≠ b → (TX7 a).2.1 ≠ (TX7 b).2.1 := by decide +kernel
theorem tyX7_ok : ∀ k, k < 22 → parseFieldDescriptor (TX7 k).2.2.1 = some (tyX7 k) := by decide +kernel
abbrev cX7_init : ByteArray := prog_9_method_1_code
def yX7_init : MethodName := ⟨RX7, "<init>", "()V"⟩
abbrev cX7_in : ByteArray := prog_9_method_3_code
def yX7_in : MethodName := ⟨RX7, "in", "(JJJ)Z"⟩
abbrev cX7_has : ByteArray := prog_9_method_4_code
def yX7_has : MethodName := ⟨RX7, "has", "(II)Z"⟩
abbrev cX7_ones : ByteArray := prog_9_method_5_code
def yX7_ones : MethodName := ⟨RX7, "ones", "(I)I"⟩
abbrev cX7_write : ByteArray := prog_9_method_6_code
def yX7_write : MethodName := ⟨RX7, "write", "(I)I"⟩
abbrev cX7_wipe : ByteArray := prog_9_method_7_code
def yX7_wipe : MethodName := ⟨RX7, "wipe", "()I"⟩
abbrev cX7_figure : ByteArray := prog_9_method_8_code
def yX7_figure : MethodName := ⟨RX7, "figure", "(II)I"⟩
abbrev cX7_figureOf : ByteArray := prog_9_method_9_code
def yX7_figureOf : MethodName := ⟨RX7, "figureOf", "(I)I"⟩
abbrev cX7_debtsLeft : ByteArray := prog_9_method_10_code
def yX7_debtsLeft : MethodName := ⟨RX7, "debtsLeft", "(I)I"⟩
abbrev cX7_debtorsLeft : ByteArray := prog_9_method_11_code
def yX7_debtorsLeft : MethodName := ⟨RX7, "debtorsLeft", "()I"⟩
abbrev cX7_readText : ByteArray := prog_9_method_12_code
def yX7_readText : MethodName := ⟨RX7, "readText", "()I"⟩
abbrev cX7_readPart : ByteArray := prog_9_method_13_code
def yX7_readPart : MethodName := ⟨RX7, "readPart", "(I)V"⟩
abbrev cX7_fault : ByteArray := prog_9_method_14_code
def yX7_fault : MethodName := ⟨RX7, "fault", "()I"⟩
abbrev cX7_village : ByteArray := prog_9_method_15_code
def yX7_village : MethodName := ⟨RX7, "village", "()I"⟩
abbrev cX7_isPerson : ByteArray := prog_9_method_16_code
def yX7_isPerson : MethodName := ⟨RX7, "isPerson", "(I)Z"⟩
abbrev cX7_isBeast : ByteArray := prog_9_method_17_code
def yX7_isBeast : MethodName := ⟨RX7, "isBeast", "(I)Z"⟩
abbrev cX7_debt : ByteArray := prog_9_method_18_code
def yX7_debt : MethodName := ⟨RX7, "debt", "(III)I"⟩
abbrev cX7_isIn : ByteArray := prog_9_method_19_code
def yX7_isIn : MethodName := ⟨RX7, "isIn", "(II)Z"⟩
abbrev cX7_person : ByteArray := prog_9_method_20_code
def yX7_person : MethodName := ⟨RX7, "person", "(II)I"⟩
abbrev cX7_beast : ByteArray := prog_9_method_21_code
def yX7_beast : MethodName := ⟨RX7, "beast", "(II)I"⟩
abbrev cX7_owes : ByteArray := prog_9_method_22_code
def yX7_owes : MethodName := ⟨RX7, "owes", "(II)I"⟩
abbrev cX7_clauseOn : ByteArray := prog_9_method_23_code
def yX7_clauseOn : MethodName := ⟨RX7, "clauseOn", "(III)I"⟩
abbrev cX7_addOn : ByteArray := prog_9_method_24_code
def yX7_addOn : MethodName := ⟨RX7, "addOn", "(IIII)V"⟩
abbrev cX7_shutOn : ByteArray := prog_9_method_25_code
def yX7_shutOn : MethodName := ⟨RX7, "shutOn", "(III)V"⟩
abbrev cX7_feedOn : ByteArray := prog_9_method_26_code
def yX7_feedOn : MethodName := ⟨RX7, "feedOn", "(II)V"⟩
abbrev cX7_passOn : ByteArray := prog_9_method_27_code
def yX7_passOn : MethodName := ⟨RX7, "passOn", "(I)V"⟩
abbrev cX7_canKeep : ByteArray := prog_9_method_28_code
def yX7_canKeep : MethodName := ⟨RX7, "canKeep", "(II)Z"⟩
abbrev cX7_keepOn : ByteArray := prog_9_method_29_code
def yX7_keepOn : MethodName := ⟨RX7, "keepOn", "(II)V"⟩
abbrev cX7_breakOn : ByteArray := prog_9_method_30_code
def yX7_breakOn : MethodName := ⟨RX7, "breakOn", "(II)V"⟩
abbrev cX7_keepAct : ByteArray := prog_9_method_31_code
def yX7_keepAct : MethodName := ⟨RX7, "keepAct", "()V"⟩
abbrev cX7_drive : ByteArray := prog_9_method_32_code
def yX7_drive : MethodName := ⟨RX7, "drive", "(II)I"⟩
abbrev cX7_shutNow : ByteArray := prog_9_method_33_code
def yX7_shutNow : MethodName := ⟨RX7, "shutNow", "()I"⟩
abbrev cX7_day : ByteArray := prog_9_method_34_code
def yX7_day : MethodName := ⟨RX7, "day", "()I"⟩
abbrev cX7_pay : ByteArray := prog_9_method_35_code
def yX7_pay : MethodName := ⟨RX7, "pay", "(III)I"⟩
abbrev cX7_breakOut : ByteArray := prog_9_method_36_code
def yX7_breakOut : MethodName := ⟨RX7, "breakOut", "(I)I"⟩
abbrev cX7_forfeit : ByteArray := prog_9_method_37_code
def yX7_forfeit : MethodName := ⟨RX7, "forfeit", "(I)I"⟩
abbrev cX7_undo : ByteArray := prog_9_method_38_code
def yX7_undo : MethodName := ⟨RX7, "undo", "()I"⟩
abbrev cX7_layTrial : ByteArray := prog_9_method_39_code
def yX7_layTrial : MethodName := ⟨RX7, "layTrial", "()V"⟩
abbrev cX7_clause : ByteArray := prog_9_method_40_code
def yX7_clause : MethodName := ⟨RX7, "clause", "(II)I"⟩
abbrev cX7_worth : ByteArray := prog_9_method_41_code
def yX7_worth : MethodName := ⟨RX7, "worth", "(II)I"⟩
abbrev cX7_owedIf : ByteArray := prog_9_method_42_code
def yX7_owedIf : MethodName := ⟨RX7, "owedIf", "(III)I"⟩
abbrev cX7_take : ByteArray := prog_9_method_43_code
def yX7_take : MethodName := ⟨RX7, "take", "(IIZ)I"⟩
abbrev cX7_power : ByteArray := prog_9_method_44_code
def yX7_power : MethodName := ⟨RX7, "power", "(II)I"⟩
abbrev cX7_wayOf : ByteArray := prog_9_method_45_code
def yX7_wayOf : MethodName := ⟨RX7, "wayOf", "(I)I"⟩
abbrev cX7_getBy : ByteArray := prog_9_method_46_code
def yX7_getBy : MethodName := ⟨RX7, "getBy", "(II)I"⟩
abbrev cX7_mostBy : ByteArray := prog_9_method_47_code
def yX7_mostBy : MethodName := ⟨RX7, "mostBy", "(I)I"⟩
abbrev cX7_each : ByteArray := prog_9_method_48_code
def yX7_each : MethodName := ⟨RX7, "each", "(Z)I"⟩
abbrev cX7_factorial : ByteArray := prog_9_method_49_code
def yX7_factorial : MethodName := ⟨RX7, "factorial", "(I)I"⟩
abbrev cX7_common : ByteArray := prog_9_method_50_code
def yX7_common : MethodName := ⟨RX7, "common", "(II)I"⟩
abbrev cX7_share : ByteArray := prog_9_method_51_code
def yX7_share : MethodName := ⟨RX7, "share", "(IZ)I"⟩
abbrev cX7_leastOf : ByteArray := prog_9_method_52_code
def yX7_leastOf : MethodName := ⟨RX7, "leastOf", "(III)I"⟩
abbrev cX7_layRing : ByteArray := prog_9_method_53_code
def yX7_layRing : MethodName := ⟨RX7, "layRing", "(I)I"⟩
abbrev cX7_ring : ByteArray := prog_9_method_54_code
def yX7_ring : MethodName := ⟨RX7, "ring", "(I)I"⟩
abbrev cX7_close : ByteArray := prog_9_method_55_code
def yX7_close : MethodName := ⟨RX7, "close", "(I)I"⟩
abbrev cX7_tenTo : ByteArray := prog_9_method_56_code
def yX7_tenTo : MethodName := ⟨RX7, "tenTo", "(I)J"⟩
abbrev cX7_tryThing : ByteArray := prog_9_method_57_code
def yX7_tryThing : MethodName := ⟨RX7, "tryThing", "(I)Z"⟩
abbrev cX7_judge : ByteArray := prog_9_method_58_code
def yX7_judge : MethodName := ⟨RX7, "judge", "(IJ)I"⟩
abbrev cX7_mayTake : ByteArray := prog_9_method_59_code
def yX7_mayTake : MethodName := ⟨RX7, "mayTake", "(II)I"⟩
abbrev cX7_who : ByteArray := prog_9_method_60_code
def yX7_who : MethodName := ⟨RX7, "who", "(I)I"⟩
abbrev cX7_areSuspects : ByteArray := prog_9_method_61_code
def yX7_areSuspects : MethodName := ⟨RX7, "areSuspects", "(II)Z"⟩
abbrev cX7_suspects : ByteArray := prog_9_method_62_code
def yX7_suspects : MethodName := ⟨RX7, "suspects", "(II)I"⟩
abbrev cX7_isChoice : ByteArray := prog_9_method_63_code
def yX7_isChoice : MethodName := ⟨RX7, "isChoice", "(III)Z"⟩
abbrev cX7_layGains : ByteArray := prog_9_method_64_code
def yX7_layGains : MethodName := ⟨RX7, "layGains", "(II)V"⟩
abbrev cX7_isRest : ByteArray := prog_9_method_65_code
def yX7_isRest : MethodName := ⟨RX7, "isRest", "(III)Z"⟩
abbrev cX7_rests : ByteArray := prog_9_method_66_code
def yX7_rests : MethodName := ⟨RX7, "rests", "(III)I"⟩
abbrev cX7_chance : ByteArray := prog_9_method_67_code
def yX7_chance : MethodName := ⟨RX7, "chance", "(IIZ)I"⟩
abbrev cX7_seed : ByteArray := prog_9_method_68_code
def yX7_seed : MethodName := ⟨RX7, "seed", "(J)J"⟩
abbrev cX7_allOwed : ByteArray := prog_9_method_69_code
def yX7_allOwed : MethodName := ⟨RX7, "allOwed", "(I)I"⟩
abbrev cX7_villages : ByteArray := prog_9_method_70_code
def yX7_villages : MethodName := ⟨RX7, "villages", "(I)I"⟩
abbrev cX7_keep : ByteArray := prog_9_method_71_code
def yX7_keep : MethodName := ⟨RX7, "keep", "(I)I"⟩
abbrev cX7_again : ByteArray := prog_9_method_72_code
def yX7_again : MethodName := ⟨RX7, "again", "(I)I"⟩
abbrev cX7_count : ByteArray := prog_9_method_73_code
def yX7_count : MethodName := ⟨RX7, "count", "(I)I"⟩
def RJ6 : String := "java/lang/Integer"
def TJ6 : u_T := fun k => match k with
  | _ => ("", "", "", false)
def tyJ6 : Nat → FieldType := fun k => match k with
  | _ => .int
theorem nmJ6 : ∀ a, a < 0 → ∀ b, b < 0 → a ≠ b → (TJ6 a).2.1 ≠ (TJ6 b).2.1 := by decide +kernel
theorem tyJ6_ok : ∀ k, k < 0 → parseFieldDescriptor (TJ6 k).2.2.1 = some (tyJ6 k) := by decide +kernel
abbrev cJ6_bitCount_0f7a4 : ByteArray := prog_10_method_49_code
def yJ6_bitCount_0f7a4 : MethodName := ⟨RJ6, "bitCount", "(I)I"⟩
def RJ9 : String := "java/lang/Math"
def TJ9 : u_T := fun k => match k with
  | _ => ("", "", "", false)
def tyJ9 : Nat → FieldType := fun k => match k with
  | _ => .int
theorem nmJ9 : ∀ a, a < 0 → ∀ b, b < 0 → a ≠ b → (TJ9 a).2.1 ≠ (TJ9 b).2.1 := by decide +kernel
theorem tyJ9_ok : ∀ k, k < 0 → parseFieldDescriptor (TJ9 k).2.2.1 = some (tyJ9 k) := by decide +kernel
abbrev cJ9_floorMod_7cf53 : ByteArray := prog_11_method_50_code
def yJ9_floorMod_7cf53 : MethodName := ⟨RJ9, "floorMod", "(II)I"⟩
abbrev cJ9_max_7cf53 : ByteArray := prog_11_method_65_code
def yJ9_max_7cf53 : MethodName := ⟨RJ9, "max", "(II)I"⟩
abbrev cJ9_min_7cf53 : ByteArray := prog_11_method_69_code
def yJ9_min_7cf53 : MethodName := ⟨RJ9, "min", "(II)I"⟩
def RJ10 : String := "java/lang/System"
def TJ10 : u_T := fun k => match k with
  | _ => ("", "", "", false)
def tyJ10 : Nat → FieldType := fun k => match k with
  | _ => .int
theorem nmJ10 : ∀ a, a < 0 → ∀ b, b < 0 → a ≠ b → (TJ10 a).2.1 ≠ (TJ10 b).2.1 := by decide +kernel
theorem tyJ10_ok : ∀ k, k < 0 → parseFieldDescriptor (TJ10 k).2.2.1 = some (tyJ10 k) := by decide +kernel
def RJ7 : String := "java/util/Arrays"
def TJ7 : u_T := fun k => match k with
  | _ => ("", "", "", false)
def tyJ7 : Nat → FieldType := fun k => match k with
  | _ => .int
theorem nmJ7 : ∀ a, a < 0 → ∀ b, b < 0 → a ≠ b → (TJ7 a).2.1 ≠ (TJ7 b).2.1 := by decide +kernel
theorem tyJ7_ok : ∀ k, k < 0 → parseFieldDescriptor (TJ7 k).2.2.1 = some (tyJ7 k) := by decide +kernel
abbrev cJ7_fill_53178 : ByteArray := prog_13_method_103_code
def yJ7_fill_53178 : MethodName := ⟨RJ7, "fill", "([II)V"⟩
def RL : String := "PoundBeastsLaw"
abbrev cL_law : ByteArray := code
def yL_law : MethodName := ⟨RL, "law", "([I)Z"⟩
abbrev vwCl : List vw_C := [(RX0, TX0, 3), (RX1, TX1, 6), (RX2, TX2, 2), (RX3, TX3, 3), (RX4, TX4, 3), (RX5, TX5, 1), (RX6, TX6, 11), (RX7, TX7, 22)]
