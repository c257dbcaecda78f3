section
/-! names and tables, by program out of what TURN printed -/
/-- a private method of a class that the tables say can be made, by its rows of tables_1 -/
def lw_okq (q : MethodName × Nat) : Prop := (q.1.cls ≠ "java/lang/invoke/MethodHandle" ∧ q.1.cls ≠ "java/lang/invoke/VarHandle") ∧ Cond.instantiable q.1.cls q.2 ∈ tables_1 ∧ Cond.privateMethod q.1 ∈ tables_1 ∧ Cond.instanceMethod q.1 ∈ tables_1
theorem lw_p0 : lw_okq (⟨"BorderPaints$State", "isConflictAt", "(I)Z"⟩, 8) := ⟨⟨by decide +kernel, by decide +kernel⟩, List.mem_of_getElem? (i := 20) (by decide +kernel), List.mem_of_getElem? (i := 289) (by decide +kernel), List.mem_of_getElem? (i := 290) (by decide +kernel)⟩
theorem lw_p1 : lw_okq (⟨"BorderPaints$Borders", "removeAt", "(I)V"⟩, 4) := ⟨⟨by decide +kernel, by decide +kernel⟩, List.mem_of_getElem? (i := 26) (by decide +kernel), List.mem_of_getElem? (i := 313) (by decide +kernel), List.mem_of_getElem? (i := 314) (by decide +kernel)⟩
theorem lw_p2 : lw_okq (⟨"BorderPaints$BorderText", "faultInBorder", "(I)I"⟩, 6) := ⟨⟨by decide +kernel, by decide +kernel⟩, List.mem_of_getElem? (i := 110) (by decide +kernel), List.mem_of_getElem? (i := 325) (by decide +kernel), List.mem_of_getElem? (i := 326) (by decide +kernel)⟩
theorem lw_p3 : lw_okq (⟨"BorderPaints$BorderText", "isDigitAt", "(I)Z"⟩, 6) := ⟨⟨by decide +kernel, by decide +kernel⟩, List.mem_of_getElem? (i := 110) (by decide +kernel), List.mem_of_getElem? (i := 329) (by decide +kernel), List.mem_of_getElem? (i := 330) (by decide +kernel)⟩
theorem lw_p4 : lw_okq (⟨"BorderPaints$BorderText", "isSignAt", "(IC)Z"⟩, 6) := ⟨⟨by decide +kernel, by decide +kernel⟩, List.mem_of_getElem? (i := 110) (by decide +kernel), List.mem_of_getElem? (i := 333) (by decide +kernel), List.mem_of_getElem? (i := 334) (by decide +kernel)⟩
theorem lw_p5 : lw_okq (⟨"BorderPaints$BorderText", "digitAt", "(I)I"⟩, 6) := ⟨⟨by decide +kernel, by decide +kernel⟩, List.mem_of_getElem? (i := 110) (by decide +kernel), List.mem_of_getElem? (i := 337) (by decide +kernel), List.mem_of_getElem? (i := 338) (by decide +kernel)⟩
theorem lw_p6 : lw_okq (⟨"BorderPaints$BorderText", "takeBorder", "(II)I"⟩, 6) := ⟨⟨by decide +kernel, by decide +kernel⟩, List.mem_of_getElem? (i := 110) (by decide +kernel), List.mem_of_getElem? (i := 341) (by decide +kernel), List.mem_of_getElem? (i := 342) (by decide +kernel)⟩
theorem lw_p7 : lw_okq (⟨"BorderPaints", "canJoin", "(II)Z"⟩, 6) := ⟨⟨by decide +kernel, by decide +kernel⟩, List.mem_of_getElem? (i := 12) (by decide +kernel), List.mem_of_getElem? (i := 349) (by decide +kernel), List.mem_of_getElem? (i := 350) (by decide +kernel)⟩
theorem lw_p8 : lw_okq (⟨"BorderPaints$Repainter", "coloursFor", "(I)I"⟩, 7) := ⟨⟨by decide +kernel, by decide +kernel⟩, List.mem_of_getElem? (i := 141) (by decide +kernel), List.mem_of_getElem? (i := 390) (by decide +kernel), List.mem_of_getElem? (i := 391) (by decide +kernel)⟩
theorem lw_p9 : lw_okq (⟨"BorderPaints$State", "withEitherColour", "(II)I"⟩, 8) := ⟨⟨by decide +kernel, by decide +kernel⟩, List.mem_of_getElem? (i := 20) (by decide +kernel), List.mem_of_getElem? (i := 403) (by decide +kernel), List.mem_of_getElem? (i := 404) (by decide +kernel)⟩
theorem lw_p10 : lw_okq (⟨"BorderPaints$Repainter", "bindsLaterOnes", "(I)Z"⟩, 7) := ⟨⟨by decide +kernel, by decide +kernel⟩, List.mem_of_getElem? (i := 141) (by decide +kernel), List.mem_of_getElem? (i := 502) (by decide +kernel), List.mem_of_getElem? (i := 503) (by decide +kernel)⟩
theorem lw_p11 : lw_okq (⟨"BorderPaintsModel", "record", "()V"⟩, 19) := ⟨⟨by decide +kernel, by decide +kernel⟩, List.mem_of_getElem? (i := 547) (by decide +kernel), List.mem_of_getElem? (i := 621) (by decide +kernel), List.mem_of_getElem? (i := 622) (by decide +kernel)⟩
theorem lw_p12 : lw_okq (⟨"BorderPaintsModel", "puts", "(III)V"⟩, 19) := ⟨⟨by decide +kernel, by decide +kernel⟩, List.mem_of_getElem? (i := 547) (by decide +kernel), List.mem_of_getElem? (i := 625) (by decide +kernel), List.mem_of_getElem? (i := 626) (by decide +kernel)⟩
theorem lw_p13 : lw_okq (⟨"BorderPaintsModel", "no", "(I)Z"⟩, 19) := ⟨⟨by decide +kernel, by decide +kernel⟩, List.mem_of_getElem? (i := 547) (by decide +kernel), List.mem_of_getElem? (i := 633) (by decide +kernel), List.mem_of_getElem? (i := 634) (by decide +kernel)⟩
theorem lw_p14 : lw_okq (⟨"BorderPaintsModel", "isThere", "(I)Z"⟩, 19) := ⟨⟨by decide +kernel, by decide +kernel⟩, List.mem_of_getElem? (i := 547) (by decide +kernel), List.mem_of_getElem? (i := 637) (by decide +kernel), List.mem_of_getElem? (i := 638) (by decide +kernel)⟩
theorem lw_p15 : lw_okq (⟨"BorderPaintsModel", "of", "(II)I"⟩, 19) := ⟨⟨by decide +kernel, by decide +kernel⟩, List.mem_of_getElem? (i := 547) (by decide +kernel), List.mem_of_getElem? (i := 641) (by decide +kernel), List.mem_of_getElem? (i := 642) (by decide +kernel)⟩
def lw_privs_1 : List (MethodName × Nat) := [(⟨"BorderPaints$State", "isConflictAt", "(I)Z"⟩, 8), (⟨"BorderPaints$Borders", "removeAt", "(I)V"⟩, 4), (⟨"BorderPaints$BorderText", "faultInBorder", "(I)I"⟩, 6), (⟨"BorderPaints$BorderText", "isDigitAt", "(I)Z"⟩, 6), (⟨"BorderPaints$BorderText", "isSignAt", "(IC)Z"⟩, 6), (⟨"BorderPaints$BorderText", "digitAt", "(I)I"⟩, 6), (⟨"BorderPaints$BorderText", "takeBorder", "(II)I"⟩, 6), (⟨"BorderPaints", "canJoin", "(II)Z"⟩, 6), (⟨"BorderPaints$Repainter", "coloursFor", "(I)I"⟩, 7), (⟨"BorderPaints$State", "withEitherColour", "(II)I"⟩, 8), (⟨"BorderPaints$Repainter", "bindsLaterOnes", "(I)Z"⟩, 7), (⟨"BorderPaintsModel", "record", "()V"⟩, 19), (⟨"BorderPaintsModel", "puts", "(III)V"⟩, 19), (⟨"BorderPaintsModel", "no", "(I)Z"⟩, 19), (⟨"BorderPaintsModel", "isThere", "(I)Z"⟩, 19), (⟨"BorderPaintsModel", "of", "(II)I"⟩, 19)]
theorem lw_r1 : ∀ q ∈ lw_privs_1, lw_okq q := List.forall_mem_cons.mpr ⟨lw_p0, List.forall_mem_cons.mpr ⟨lw_p1, List.forall_mem_cons.mpr ⟨lw_p2, List.forall_mem_cons.mpr ⟨lw_p3, List.forall_mem_cons.mpr ⟨lw_p4, List.forall_mem_cons.mpr ⟨lw_p5, List.forall_mem_cons.mpr ⟨lw_p6, List.forall_mem_cons.mpr ⟨lw_p7, List.forall_mem_cons.mpr ⟨lw_p8, List.forall_mem_cons.mpr ⟨lw_p9, List.forall_mem_cons.mpr ⟨lw_p10, List.forall_mem_cons.mpr ⟨lw_p11, List.forall_mem_cons.mpr ⟨lw_p12, List.forall_mem_cons.mpr ⟨lw_p13, List.forall_mem_cons.mpr ⟨lw_p14, List.forall_mem_cons.mpr ⟨lw_p15, fun _ h => absurd h List.not_mem_nil⟩⟩⟩⟩⟩⟩⟩⟩⟩⟩⟩⟩⟩⟩⟩⟩
theorem lw_p16 : lw_okq (⟨"BorderPaintsModel", "wrongs", "()I"⟩, 19) := ⟨⟨by decide +kernel, by decide +kernel⟩, List.mem_of_getElem? (i := 547) (by decide +kernel), List.mem_of_getElem? (i := 645) (by decide +kernel), List.mem_of_getElem? (i := 646) (by decide +kernel)⟩
theorem lw_p17 : lw_okq (⟨"BorderPaintsModel", "isWrong", "(I)Z"⟩, 19) := ⟨⟨by decide +kernel, by decide +kernel⟩, List.mem_of_getElem? (i := 547) (by decide +kernel), List.mem_of_getElem? (i := 649) (by decide +kernel), List.mem_of_getElem? (i := 650) (by decide +kernel)⟩
theorem lw_p18 : lw_okq (⟨"BorderPaintsModel", "conflicts", "(I)I"⟩, 19) := ⟨⟨by decide +kernel, by decide +kernel⟩, List.mem_of_getElem? (i := 547) (by decide +kernel), List.mem_of_getElem? (i := 653) (by decide +kernel), List.mem_of_getElem? (i := 654) (by decide +kernel)⟩
theorem lw_p19 : lw_okq (⟨"BorderPaintsModel", "isConflict", "(II)Z"⟩, 19) := ⟨⟨by decide +kernel, by decide +kernel⟩, List.mem_of_getElem? (i := 547) (by decide +kernel), List.mem_of_getElem? (i := 657) (by decide +kernel), List.mem_of_getElem? (i := 658) (by decide +kernel)⟩
theorem lw_p20 : lw_okq (⟨"BorderPaintsModel", "length", "(II)I"⟩, 19) := ⟨⟨by decide +kernel, by decide +kernel⟩, List.mem_of_getElem? (i := 547) (by decide +kernel), List.mem_of_getElem? (i := 661) (by decide +kernel), List.mem_of_getElem? (i := 662) (by decide +kernel)⟩
theorem lw_p21 : lw_okq (⟨"BorderPaintsModel", "isBad", "(II)Z"⟩, 19) := ⟨⟨by decide +kernel, by decide +kernel⟩, List.mem_of_getElem? (i := 547) (by decide +kernel), List.mem_of_getElem? (i := 665) (by decide +kernel), List.mem_of_getElem? (i := 666) (by decide +kernel)⟩
theorem lw_p22 : lw_okq (⟨"BorderPaintsModel", "set", "(I)I"⟩, 19) := ⟨⟨by decide +kernel, by decide +kernel⟩, List.mem_of_getElem? (i := 547) (by decide +kernel), List.mem_of_getElem? (i := 677) (by decide +kernel), List.mem_of_getElem? (i := 678) (by decide +kernel)⟩
theorem lw_p23 : lw_okq (⟨"BorderPaintsModel", "overBorders", "(I)I"⟩, 19) := ⟨⟨by decide +kernel, by decide +kernel⟩, List.mem_of_getElem? (i := 547) (by decide +kernel), List.mem_of_getElem? (i := 688) (by decide +kernel), List.mem_of_getElem? (i := 689) (by decide +kernel)⟩
theorem lw_p24 : lw_okq (⟨"BorderPaintsModel", "lays", "(III)V"⟩, 19) := ⟨⟨by decide +kernel, by decide +kernel⟩, List.mem_of_getElem? (i := 547) (by decide +kernel), List.mem_of_getElem? (i := 696) (by decide +kernel), List.mem_of_getElem? (i := 697) (by decide +kernel)⟩
theorem lw_p25 : lw_okq (⟨"BorderPaintsModel", "neighbours", "(I)I"⟩, 19) := ⟨⟨by decide +kernel, by decide +kernel⟩, List.mem_of_getElem? (i := 547) (by decide +kernel), List.mem_of_getElem? (i := 707) (by decide +kernel), List.mem_of_getElem? (i := 708) (by decide +kernel)⟩
theorem lw_p26 : lw_okq (⟨"BorderPaintsModel", "goesThrough", "()V"⟩, 19) := ⟨⟨by decide +kernel, by decide +kernel⟩, List.mem_of_getElem? (i := 547) (by decide +kernel), List.mem_of_getElem? (i := 719) (by decide +kernel), List.mem_of_getElem? (i := 720) (by decide +kernel)⟩
theorem lw_p27 : lw_okq (⟨"BorderPaintsModel", "meets", "()V"⟩, 19) := ⟨⟨by decide +kernel, by decide +kernel⟩, List.mem_of_getElem? (i := 547) (by decide +kernel), List.mem_of_getElem? (i := 723) (by decide +kernel), List.mem_of_getElem? (i := 724) (by decide +kernel)⟩
theorem lw_p28 : lw_okq (⟨"BorderPaintsModel", "fits", "(I)Z"⟩, 19) := ⟨⟨by decide +kernel, by decide +kernel⟩, List.mem_of_getElem? (i := 547) (by decide +kernel), List.mem_of_getElem? (i := 727) (by decide +kernel), List.mem_of_getElem? (i := 728) (by decide +kernel)⟩
theorem lw_p29 : lw_okq (⟨"BorderPaintsModel", "areNeighbours", "(II)Z"⟩, 19) := ⟨⟨by decide +kernel, by decide +kernel⟩, List.mem_of_getElem? (i := 547) (by decide +kernel), List.mem_of_getElem? (i := 731) (by decide +kernel), List.mem_of_getElem? (i := 732) (by decide +kernel)⟩
theorem lw_p30 : lw_okq (⟨"BorderPaintsModel", "isBarred", "(II)Z"⟩, 19) := ⟨⟨by decide +kernel, by decide +kernel⟩, List.mem_of_getElem? (i := 547) (by decide +kernel), List.mem_of_getElem? (i := 739) (by decide +kernel), List.mem_of_getElem? (i := 740) (by decide +kernel)⟩
theorem lw_p31 : lw_okq (⟨"BorderPaintsModel", "chainOf", "(II)I"⟩, 19) := ⟨⟨by decide +kernel, by decide +kernel⟩, List.mem_of_getElem? (i := 547) (by decide +kernel), List.mem_of_getElem? (i := 743) (by decide +kernel), List.mem_of_getElem? (i := 744) (by decide +kernel)⟩
def lw_privs_2 : List (MethodName × Nat) := [(⟨"BorderPaintsModel", "wrongs", "()I"⟩, 19), (⟨"BorderPaintsModel", "isWrong", "(I)Z"⟩, 19), (⟨"BorderPaintsModel", "conflicts", "(I)I"⟩, 19), (⟨"BorderPaintsModel", "isConflict", "(II)Z"⟩, 19), (⟨"BorderPaintsModel", "length", "(II)I"⟩, 19), (⟨"BorderPaintsModel", "isBad", "(II)Z"⟩, 19), (⟨"BorderPaintsModel", "set", "(I)I"⟩, 19), (⟨"BorderPaintsModel", "overBorders", "(I)I"⟩, 19), (⟨"BorderPaintsModel", "lays", "(III)V"⟩, 19), (⟨"BorderPaintsModel", "neighbours", "(I)I"⟩, 19), (⟨"BorderPaintsModel", "goesThrough", "()V"⟩, 19), (⟨"BorderPaintsModel", "meets", "()V"⟩, 19), (⟨"BorderPaintsModel", "fits", "(I)Z"⟩, 19), (⟨"BorderPaintsModel", "areNeighbours", "(II)Z"⟩, 19), (⟨"BorderPaintsModel", "isBarred", "(II)Z"⟩, 19), (⟨"BorderPaintsModel", "chainOf", "(II)I"⟩, 19)]
theorem lw_r2 : ∀ q ∈ lw_privs_2, lw_okq q := List.forall_mem_cons.mpr ⟨lw_p16, List.forall_mem_cons.mpr ⟨lw_p17, List.forall_mem_cons.mpr ⟨lw_p18, List.forall_mem_cons.mpr ⟨lw_p19, List.forall_mem_cons.mpr ⟨lw_p20, List.forall_mem_cons.mpr ⟨lw_p21, List.forall_mem_cons.mpr ⟨lw_p22, List.forall_mem_cons.mpr ⟨lw_p23, List.forall_mem_cons.mpr ⟨lw_p24, List.forall_mem_cons.mpr ⟨lw_p25, List.forall_mem_cons.mpr ⟨lw_p26, List.forall_mem_cons.mpr ⟨lw_p27, List.forall_mem_cons.mpr ⟨lw_p28, List.forall_mem_cons.mpr ⟨lw_p29, List.forall_mem_cons.mpr ⟨lw_p30, List.forall_mem_cons.mpr ⟨lw_p31, fun _ h => absurd h List.not_mem_nil⟩⟩⟩⟩⟩⟩⟩⟩⟩⟩⟩⟩⟩⟩⟩⟩
theorem lw_p32 : lw_okq (⟨"BorderPaintsModel", "bordersOfText", "()I"⟩, 19) := ⟨⟨by decide +kernel, by decide +kernel⟩, List.mem_of_getElem? (i := 547) (by decide +kernel), List.mem_of_getElem? (i := 759) (by decide +kernel), List.mem_of_getElem? (i := 760) (by decide +kernel)⟩
theorem lw_p33 : lw_okq (⟨"BorderPaintsModel", "takesBorder", "()Z"⟩, 19) := ⟨⟨by decide +kernel, by decide +kernel⟩, List.mem_of_getElem? (i := 547) (by decide +kernel), List.mem_of_getElem? (i := 763) (by decide +kernel), List.mem_of_getElem? (i := 764) (by decide +kernel)⟩
theorem lw_p34 : lw_okq (⟨"BorderPaintsModel", "isBetween", "(II)Z"⟩, 19) := ⟨⟨by decide +kernel, by decide +kernel⟩, List.mem_of_getElem? (i := 547) (by decide +kernel), List.mem_of_getElem? (i := 767) (by decide +kernel), List.mem_of_getElem? (i := 768) (by decide +kernel)⟩
theorem lw_p35 : lw_okq (⟨"BorderPaintsModel", "takes", "(I)Z"⟩, 19) := ⟨⟨by decide +kernel, by decide +kernel⟩, List.mem_of_getElem? (i := 547) (by decide +kernel), List.mem_of_getElem? (i := 771) (by decide +kernel), List.mem_of_getElem? (i := 772) (by decide +kernel)⟩
theorem lw_p36 : lw_okq (⟨"BorderPaintsModel", "lengths", "(I)I"⟩, 19) := ⟨⟨by decide +kernel, by decide +kernel⟩, List.mem_of_getElem? (i := 547) (by decide +kernel), List.mem_of_getElem? (i := 791) (by decide +kernel), List.mem_of_getElem? (i := 792) (by decide +kernel)⟩
theorem lw_p37 : lw_okq (⟨"BorderPaintsModel", "could", "(I)I"⟩, 19) := ⟨⟨by decide +kernel, by decide +kernel⟩, List.mem_of_getElem? (i := 547) (by decide +kernel), List.mem_of_getElem? (i := 795) (by decide +kernel), List.mem_of_getElem? (i := 796) (by decide +kernel)⟩
theorem lw_p38 : lw_okq (⟨"BorderPaintsModel", "changed", "()I"⟩, 19) := ⟨⟨by decide +kernel, by decide +kernel⟩, List.mem_of_getElem? (i := 547) (by decide +kernel), List.mem_of_getElem? (i := 815) (by decide +kernel), List.mem_of_getElem? (i := 816) (by decide +kernel)⟩
theorem lw_p39 : lw_okq (⟨"BorderPaintsModel", "different", "()I"⟩, 19) := ⟨⟨by decide +kernel, by decide +kernel⟩, List.mem_of_getElem? (i := 547) (by decide +kernel), List.mem_of_getElem? (i := 847) (by decide +kernel), List.mem_of_getElem? (i := 848) (by decide +kernel)⟩
theorem lw_p40 : lw_okq (⟨"BorderPaintsModel", "pairs", "()I"⟩, 19) := ⟨⟨by decide +kernel, by decide +kernel⟩, List.mem_of_getElem? (i := 547) (by decide +kernel), List.mem_of_getElem? (i := 851) (by decide +kernel), List.mem_of_getElem? (i := 852) (by decide +kernel)⟩
def lw_privs_3 : List (MethodName × Nat) := [(⟨"BorderPaintsModel", "bordersOfText", "()I"⟩, 19), (⟨"BorderPaintsModel", "takesBorder", "()Z"⟩, 19), (⟨"BorderPaintsModel", "isBetween", "(II)Z"⟩, 19), (⟨"BorderPaintsModel", "takes", "(I)Z"⟩, 19), (⟨"BorderPaintsModel", "lengths", "(I)I"⟩, 19), (⟨"BorderPaintsModel", "could", "(I)I"⟩, 19), (⟨"BorderPaintsModel", "changed", "()I"⟩, 19), (⟨"BorderPaintsModel", "different", "()I"⟩, 19), (⟨"BorderPaintsModel", "pairs", "()I"⟩, 19)]
theorem lw_r3 : ∀ q ∈ lw_privs_3, lw_okq q := List.forall_mem_cons.mpr ⟨lw_p32, List.forall_mem_cons.mpr ⟨lw_p33, List.forall_mem_cons.mpr ⟨lw_p34, List.forall_mem_cons.mpr ⟨lw_p35, List.forall_mem_cons.mpr ⟨lw_p36, List.forall_mem_cons.mpr ⟨lw_p37, List.forall_mem_cons.mpr ⟨lw_p38, List.forall_mem_cons.mpr ⟨lw_p39, List.forall_mem_cons.mpr ⟨lw_p40, fun _ h => absurd h List.not_mem_nil⟩⟩⟩⟩⟩⟩⟩⟩⟩
def lw_privs : List (MethodName × Nat) := lw_privs_1 ++ (lw_privs_2 ++ (lw_privs_3))
def lw_tbl : List Cond := k2_sels lw_privs ++ tables_1
theorem lw_privs_ok : ∀ q ∈ lw_privs, lw_okq q := by
  show ∀ q ∈ lw_privs_1 ++ (lw_privs_2 ++ (lw_privs_3)), lw_okq q
  exact List.forall_mem_append.mpr ⟨lw_r1, List.forall_mem_append.mpr ⟨lw_r2, lw_r3⟩⟩
def zR0 : String := "BorderPaints$BorderText"
def zT0 : u_T := fun k => match k with
  | 0 => ("BorderPaints$BorderText", "size", "I", false)
  | 1 => ("BorderPaints$BorderText", "signs", "[C", true)
  | 2 => ("BorderPaints$BorderText", "found", "I", false)
  | 3 => ("BorderPaints$BorderText", "first", "[I", true)
  | 4 => ("BorderPaints$BorderText", "second", "[I", true)
  | _ => ("BorderPaints$BorderText", "length", "[I", true)
def zY0 : Nat → FieldType := fun k => match k with
  | 0 => .int
  | 1 => .array .char
  | 2 => .int
  | 3 => .array .int
  | 4 => .array .int
  | _ => .array .int
theorem zN0 : ∀ a, a < 6 → ∀ b, b < 6 → a ≠ b → (zT0 a).2.1 ≠ (zT0 b).2.1 := by decide +kernel
theorem zY0_ok : ∀ k, k < 6 → parseFieldDescriptor (zT0 k).2.2.1 = some (zY0 k) := by decide +kernel
def zR1 : String := "BorderPaints$Borders"
def zT1 : u_T := fun k => match k with
  | 0 => ("BorderPaints$Borders", "size", "I", false)
  | 1 => ("BorderPaints$Borders", "lower", "[I", true)
  | 2 => ("BorderPaints$Borders", "greater", "[I", true)
  | _ => ("BorderPaints$Borders", "length", "[I", true)
def zY1 : Nat → FieldType := fun k => match k with
  | 0 => .int
  | 1 => .array .int
  | 2 => .array .int
  | _ => .array .int
theorem zN1 : ∀ a, a < 4 → ∀ b, b < 4 → a ≠ b → (zT1 a).2.1 ≠ (zT1 b).2.1 := by decide +kernel
theorem zY1_ok : ∀ k, k < 4 → parseFieldDescriptor (zT1 k).2.2.1 = some (zY1 k) := by decide +kernel
def zR2 : String := "BorderPaints$History"
def zT2 : u_T := fun k => match k with
  | 0 => ("BorderPaints$History", "size", "I", false)
  | 1 => ("BorderPaints$History", "next", "I", false)
  | _ => ("BorderPaints$History", "states", "[LBorderPaints$State;", true)
def zY2 : Nat → FieldType := fun k => match k with
  | 0 => .int
  | 1 => .int
  | _ => .array (.object "BorderPaints$State")
theorem zN2 : ∀ a, a < 3 → ∀ b, b < 3 → a ≠ b → (zT2 a).2.1 ≠ (zT2 b).2.1 := by decide +kernel
theorem zY2_ok : ∀ k, k < 3 → parseFieldDescriptor (zT2 k).2.2.1 = some (zY2 k) := by decide +kernel
def zR3 : String := "BorderPaints$Repainter"
def zT3 : u_T := fun k => match k with
  | 0 => ("BorderPaints$Repainter", "state", "LBorderPaints$State;", true)
  | 1 => ("BorderPaints$Repainter", "open", "[I", true)
  | 2 => ("BorderPaints$Repainter", "neighbours", "[I", true)
  | 3 => ("BorderPaints$Repainter", "trial", "[I", true)
  | 4 => ("BorderPaints$Repainter", "least", "[I", true)
  | 5 => ("BorderPaints$Repainter", "leastCost", "I", false)
  | _ => ("BorderPaints$Repainter", "isFound", "Z", false)
def zY3 : Nat → FieldType := fun k => match k with
  | 0 => .object "BorderPaints$State"
  | 1 => .array .int
  | 2 => .array .int
  | 3 => .array .int
  | 4 => .array .int
  | 5 => .int
  | _ => .boolean
theorem zN3 : ∀ a, a < 7 → ∀ b, b < 7 → a ≠ b → (zT3 a).2.1 ≠ (zT3 b).2.1 := by decide +kernel
theorem zY3_ok : ∀ k, k < 7 → parseFieldDescriptor (zT3 k).2.2.1 = some (zY3 k) := by decide +kernel
def zR4 : String := "BorderPaints$State"
def zT4 : u_T := fun k => match k with
  | 0 => ("BorderPaints$State", "ever", "I", false)
  | 1 => ("BorderPaints$State", "there", "I", false)
  | 2 => ("BorderPaints$State", "fixed", "I", false)
  | 3 => ("BorderPaints$State", "colour", "[I", true)
  | 4 => ("BorderPaints$State", "mayHave", "[I", true)
  | 5 => ("BorderPaints$State", "weight", "[I", true)
  | 6 => ("BorderPaints$State", "forbiddenWith", "[I", true)
  | _ => ("BorderPaints$State", "borders", "LBorderPaints$Borders;", true)
def zY4 : Nat → FieldType := fun k => match k with
  | 0 => .int
  | 1 => .int
  | 2 => .int
  | 3 => .array .int
  | 4 => .array .int
  | 5 => .array .int
  | 6 => .array .int
  | _ => .object "BorderPaints$Borders"
theorem zN4 : ∀ a, a < 8 → ∀ b, b < 8 → a ≠ b → (zT4 a).2.1 ≠ (zT4 b).2.1 := by decide +kernel
theorem zY4_ok : ∀ k, k < 8 → parseFieldDescriptor (zT4 k).2.2.1 = some (zY4 k) := by decide +kernel
def zR5 : String := "BorderPaints"
def zT5 : u_T := fun k => match k with
  | 0 => ("BorderPaints", "now", "LBorderPaints$State;", true)
  | 1 => ("BorderPaints", "snapshot", "LBorderPaints$State;", true)
  | 2 => ("BorderPaints", "hasSnapshot", "Z", false)
  | 3 => ("BorderPaints", "history", "LBorderPaints$History;", true)
  | 4 => ("BorderPaints", "text", "LBorderPaints$BorderText;", true)
  | _ => ("BorderPaints", "repainter", "LBorderPaints$Repainter;", true)
def zY5 : Nat → FieldType := fun k => match k with
  | 0 => .object "BorderPaints$State"
  | 1 => .object "BorderPaints$State"
  | 2 => .boolean
  | 3 => .object "BorderPaints$History"
  | 4 => .object "BorderPaints$BorderText"
  | _ => .object "BorderPaints$Repainter"
theorem zN5 : ∀ a, a < 6 → ∀ b, b < 6 → a ≠ b → (zT5 a).2.1 ≠ (zT5 b).2.1 := by decide +kernel
theorem zY5_ok : ∀ k, k < 6 → parseFieldDescriptor (zT5 k).2.2.1 = some (zY5 k) := by decide +kernel
def zR6 : String := "BorderPaintsModel"
def zT6 : u_T := fun k => match k with
  | 0 => ("BorderPaintsModel", "now", "[I", true)
  | 1 => ("BorderPaintsModel", "history", "[I", true)
  | 2 => ("BorderPaintsModel", "kept", "I", false)
  | 3 => ("BorderPaintsModel", "slot", "[I", true)
  | 4 => ("BorderPaintsModel", "isFilled", "Z", false)
  | 5 => ("BorderPaintsModel", "pick", "[I", true)
  | 6 => ("BorderPaintsModel", "best", "[I", true)
  | 7 => ("BorderPaintsModel", "freeOnes", "[I", true)
  | 8 => ("BorderPaintsModel", "least", "I", false)
  | 9 => ("BorderPaintsModel", "many", "I", false)
  | 10 => ("BorderPaintsModel", "fewest", "I", false)
  | 11 => ("BorderPaintsModel", "one", "I", false)
  | 12 => ("BorderPaintsModel", "two", "I", false)
  | 13 => ("BorderPaintsModel", "typed", "I", false)
  | 14 => ("BorderPaintsModel", "text", "[C", true)
  | 15 => ("BorderPaintsModel", "at", "I", false)
  | 16 => ("BorderPaintsModel", "first", "I", false)
  | 17 => ("BorderPaintsModel", "second", "I", false)
  | _ => ("BorderPaintsModel", "number", "I", false)
def zY6 : Nat → FieldType := fun k => match k with
  | 0 => .array .int
  | 1 => .array .int
  | 2 => .int
  | 3 => .array .int
  | 4 => .boolean
  | 5 => .array .int
  | 6 => .array .int
  | 7 => .array .int
  | 8 => .int
  | 9 => .int
  | 10 => .int
  | 11 => .int
  | 12 => .int
  | 13 => .int
  | 14 => .array .char
  | 15 => .int
  | 16 => .int
  | 17 => .int
  | _ => .int
theorem zN6 : ∀ a, a < 19 → ∀ b, b < 19 → a ≠ b → (zT6 a).2.1 ≠ (zT6 b).2.1 := by decide +kernel
theorem zY6_ok : ∀ k, k < 19 → parseFieldDescriptor (zT6 k).2.2.1 = some (zY6 k) := by decide +kernel
def zRR (c : Nat) : String := match c with
  | 0 => zR0
  | 1 => zR1
  | 2 => zR2
  | 3 => zR3
  | 4 => zR4
  | 5 => zR5
  | _ => zR6
def zTT (c : Nat) : u_T := match c with
  | 0 => zT0
  | 1 => zT1
  | 2 => zT2
  | 3 => zT3
  | 4 => zT4
  | 5 => zT5
  | _ => zT6
def zYY (c : Nat) : Nat → FieldType := match c with
  | 0 => zY0
  | 1 => zY1
  | 2 => zY2
  | 3 => zY3
  | 4 => zY4
  | 5 => zY5
  | _ => zY6
def zNF (c : Nat) : Nat := match c with
  | 0 => 6
  | 1 => 4
  | 2 => 3
  | 3 => 7
  | 4 => 8
  | 5 => 6
  | _ => 19
abbrev zCl : List vw_C := [(zR0, zT0, 6), (zR1, zT1, 4), (zR2, zT2, 3), (zR3, zT3, 7), (zR4, zT4, 8), (zR5, zT5, 6), (zR6, zT6, 19)]
theorem zCl_at {c : Nat} (h : c < 7) : zCl[c]? = some (zRR c, zTT c, zNF c) := by
  rcases (show c = 0 ∨ c = 1 ∨ c = 2 ∨ c = 3 ∨ c = 4 ∨ c = 5 ∨ c = 6 by omega) with rfl | rfl | rfl | rfl | rfl | rfl | rfl <;> rfl
/-- the words that every method of ours has at hand -/
def zbw : List Jvm.Cond := lw_tbl.filter goodWord
theorem zin (i : Nat) {w : Jvm.Cond} (h : lw_tbl[i]? = some w) (g : goodWord w = true) : w ∈ zbw := List.mem_filter.mpr ⟨List.mem_of_getElem? h, g⟩
theorem zgood {w : Jvm.Cond} (h : w ∈ zbw) : (w.onTables && w.keeps) = true ∨ ∃ ty, w = .arrayClass ty := good_of_word (List.mem_filter.mp h).2
set_option maxRecDepth 40000 in
theorem zl0_0 : u_lay zR0 zT0 0 ∈ zbw := zin 167 rfl rfl
set_option maxRecDepth 40000 in
theorem zl0_1 : u_lay zR0 zT0 1 ∈ zbw := zin 169 rfl rfl
set_option maxRecDepth 40000 in
theorem zl0_2 : u_lay zR0 zT0 2 ∈ zbw := zin 171 rfl rfl
set_option maxRecDepth 40000 in
theorem zl0_3 : u_lay zR0 zT0 3 ∈ zbw := zin 173 rfl rfl
set_option maxRecDepth 40000 in
theorem zl0_4 : u_lay zR0 zT0 4 ∈ zbw := zin 175 rfl rfl
set_option maxRecDepth 40000 in
theorem zl0_5 : u_lay zR0 zT0 5 ∈ zbw := zin 177 rfl rfl
set_option maxRecDepth 40000 in
theorem zlw0 : ∀ w ∈ u_ws zR0 zT0 6, w ∈ zbw := by
  intro w hw
  obtain ⟨k, hk, rfl⟩ := List.mem_map.mp hw
  have hk := List.mem_range.mp hk
  rcases (show k = 0 ∨ k = 1 ∨ k = 2 ∨ k = 3 ∨ k = 4 ∨ k = 5 by omega) with rfl | rfl | rfl | rfl | rfl | rfl
  · exact zl0_0
  · exact zl0_1
  · exact zl0_2
  · exact zl0_3
  · exact zl0_4
  · exact zl0_5
set_option maxRecDepth 40000 in
theorem zl1_0 : u_lay zR1 zT1 0 ∈ zbw := zin 83 rfl rfl
set_option maxRecDepth 40000 in
theorem zl1_1 : u_lay zR1 zT1 1 ∈ zbw := zin 85 rfl rfl
set_option maxRecDepth 40000 in
theorem zl1_2 : u_lay zR1 zT1 2 ∈ zbw := zin 87 rfl rfl
set_option maxRecDepth 40000 in
theorem zl1_3 : u_lay zR1 zT1 3 ∈ zbw := zin 89 rfl rfl
set_option maxRecDepth 40000 in
theorem zlw1 : ∀ w ∈ u_ws zR1 zT1 4, w ∈ zbw := by
  intro w hw
  obtain ⟨k, hk, rfl⟩ := List.mem_map.mp hw
  have hk := List.mem_range.mp hk
  rcases (show k = 0 ∨ k = 1 ∨ k = 2 ∨ k = 3 by omega) with rfl | rfl | rfl | rfl
  · exact zl1_0
  · exact zl1_1
  · exact zl1_2
  · exact zl1_3
set_option maxRecDepth 40000 in
theorem zl2_0 : u_lay zR2 zT2 0 ∈ zbw := zin 143 rfl rfl
set_option maxRecDepth 40000 in
theorem zl2_1 : u_lay zR2 zT2 1 ∈ zbw := zin 145 rfl rfl
set_option maxRecDepth 40000 in
theorem zl2_2 : u_lay zR2 zT2 2 ∈ zbw := zin 147 rfl rfl
set_option maxRecDepth 40000 in
theorem zlw2 : ∀ w ∈ u_ws zR2 zT2 3, w ∈ zbw := by
  intro w hw
  obtain ⟨k, hk, rfl⟩ := List.mem_map.mp hw
  have hk := List.mem_range.mp hk
  rcases (show k = 0 ∨ k = 1 ∨ k = 2 by omega) with rfl | rfl | rfl
  · exact zl2_0
  · exact zl2_1
  · exact zl2_2
set_option maxRecDepth 40000 in
theorem zl3_0 : u_lay zR3 zT3 0 ∈ zbw := zin 199 rfl rfl
set_option maxRecDepth 40000 in
theorem zl3_1 : u_lay zR3 zT3 1 ∈ zbw := zin 201 rfl rfl
set_option maxRecDepth 40000 in
theorem zl3_2 : u_lay zR3 zT3 2 ∈ zbw := zin 203 rfl rfl
set_option maxRecDepth 40000 in
theorem zl3_3 : u_lay zR3 zT3 3 ∈ zbw := zin 205 rfl rfl
set_option maxRecDepth 40000 in
theorem zl3_4 : u_lay zR3 zT3 4 ∈ zbw := zin 207 rfl rfl
set_option maxRecDepth 40000 in
theorem zl3_5 : u_lay zR3 zT3 5 ∈ zbw := zin 209 rfl rfl
set_option maxRecDepth 40000 in
theorem zl3_6 : u_lay zR3 zT3 6 ∈ zbw := zin 211 rfl rfl
set_option maxRecDepth 40000 in
theorem zlw3 : ∀ w ∈ u_ws zR3 zT3 7, w ∈ zbw := by
  intro w hw
  obtain ⟨k, hk, rfl⟩ := List.mem_map.mp hw
  have hk := List.mem_range.mp hk
  rcases (show k = 0 ∨ k = 1 ∨ k = 2 ∨ k = 3 ∨ k = 4 ∨ k = 5 ∨ k = 6 by omega) with rfl | rfl | rfl | rfl | rfl | rfl | rfl
  · exact zl3_0
  · exact zl3_1
  · exact zl3_2
  · exact zl3_3
  · exact zl3_4
  · exact zl3_5
  · exact zl3_6
set_option maxRecDepth 40000 in
theorem zl4_0 : u_lay zR4 zT4 0 ∈ zbw := zin 113 rfl rfl
set_option maxRecDepth 40000 in
theorem zl4_1 : u_lay zR4 zT4 1 ∈ zbw := zin 115 rfl rfl
set_option maxRecDepth 40000 in
theorem zl4_2 : u_lay zR4 zT4 2 ∈ zbw := zin 117 rfl rfl
set_option maxRecDepth 40000 in
theorem zl4_3 : u_lay zR4 zT4 3 ∈ zbw := zin 119 rfl rfl
set_option maxRecDepth 40000 in
theorem zl4_4 : u_lay zR4 zT4 4 ∈ zbw := zin 121 rfl rfl
set_option maxRecDepth 40000 in
theorem zl4_5 : u_lay zR4 zT4 5 ∈ zbw := zin 123 rfl rfl
set_option maxRecDepth 40000 in
theorem zl4_6 : u_lay zR4 zT4 6 ∈ zbw := zin 125 rfl rfl
set_option maxRecDepth 40000 in
theorem zl4_7 : u_lay zR4 zT4 7 ∈ zbw := zin 127 rfl rfl
set_option maxRecDepth 40000 in
theorem zlw4 : ∀ w ∈ u_ws zR4 zT4 8, w ∈ zbw := by
  intro w hw
  obtain ⟨k, hk, rfl⟩ := List.mem_map.mp hw
  have hk := List.mem_range.mp hk
  rcases (show k = 0 ∨ k = 1 ∨ k = 2 ∨ k = 3 ∨ k = 4 ∨ k = 5 ∨ k = 6 ∨ k = 7 by omega) with rfl | rfl | rfl | rfl | rfl | rfl | rfl | rfl
  · exact zl4_0
  · exact zl4_1
  · exact zl4_2
  · exact zl4_3
  · exact zl4_4
  · exact zl4_5
  · exact zl4_6
  · exact zl4_7
set_option maxRecDepth 40000 in
theorem zl5_0 : u_lay zR5 zT5 0 ∈ zbw := zin 220 rfl rfl
set_option maxRecDepth 40000 in
theorem zl5_1 : u_lay zR5 zT5 1 ∈ zbw := zin 222 rfl rfl
set_option maxRecDepth 40000 in
theorem zl5_2 : u_lay zR5 zT5 2 ∈ zbw := zin 224 rfl rfl
set_option maxRecDepth 40000 in
theorem zl5_3 : u_lay zR5 zT5 3 ∈ zbw := zin 226 rfl rfl
set_option maxRecDepth 40000 in
theorem zl5_4 : u_lay zR5 zT5 4 ∈ zbw := zin 228 rfl rfl
set_option maxRecDepth 40000 in
theorem zl5_5 : u_lay zR5 zT5 5 ∈ zbw := zin 230 rfl rfl
set_option maxRecDepth 40000 in
theorem zlw5 : ∀ w ∈ u_ws zR5 zT5 6, w ∈ zbw := by
  intro w hw
  obtain ⟨k, hk, rfl⟩ := List.mem_map.mp hw
  have hk := List.mem_range.mp hk
  rcases (show k = 0 ∨ k = 1 ∨ k = 2 ∨ k = 3 ∨ k = 4 ∨ k = 5 by omega) with rfl | rfl | rfl | rfl | rfl | rfl
  · exact zl5_0
  · exact zl5_1
  · exact zl5_2
  · exact zl5_3
  · exact zl5_4
  · exact zl5_5
set_option maxRecDepth 40000 in
theorem zl6_0 : u_lay zR6 zT6 0 ∈ zbw := zin 612 rfl rfl
set_option maxRecDepth 40000 in
theorem zl6_1 : u_lay zR6 zT6 1 ∈ zbw := zin 614 rfl rfl
set_option maxRecDepth 40000 in
theorem zl6_2 : u_lay zR6 zT6 2 ∈ zbw := zin 616 rfl rfl
set_option maxRecDepth 40000 in
theorem zl6_3 : u_lay zR6 zT6 3 ∈ zbw := zin 618 rfl rfl
set_option maxRecDepth 40000 in
theorem zl6_4 : u_lay zR6 zT6 4 ∈ zbw := zin 620 rfl rfl
set_option maxRecDepth 40000 in
theorem zl6_5 : u_lay zR6 zT6 5 ∈ zbw := zin 622 rfl rfl
set_option maxRecDepth 40000 in
theorem zl6_6 : u_lay zR6 zT6 6 ∈ zbw := zin 624 rfl rfl
set_option maxRecDepth 40000 in
theorem zl6_7 : u_lay zR6 zT6 7 ∈ zbw := zin 626 rfl rfl
set_option maxRecDepth 40000 in
theorem zl6_8 : u_lay zR6 zT6 8 ∈ zbw := zin 628 rfl rfl
set_option maxRecDepth 40000 in
theorem zl6_9 : u_lay zR6 zT6 9 ∈ zbw := zin 630 rfl rfl
set_option maxRecDepth 40000 in
theorem zl6_10 : u_lay zR6 zT6 10 ∈ zbw := zin 632 rfl rfl
set_option maxRecDepth 40000 in
theorem zl6_11 : u_lay zR6 zT6 11 ∈ zbw := zin 634 rfl rfl
set_option maxRecDepth 40000 in
theorem zl6_12 : u_lay zR6 zT6 12 ∈ zbw := zin 636 rfl rfl
set_option maxRecDepth 40000 in
theorem zl6_13 : u_lay zR6 zT6 13 ∈ zbw := zin 638 rfl rfl
set_option maxRecDepth 40000 in
theorem zl6_14 : u_lay zR6 zT6 14 ∈ zbw := zin 640 rfl rfl
set_option maxRecDepth 40000 in
theorem zl6_15 : u_lay zR6 zT6 15 ∈ zbw := zin 642 rfl rfl
set_option maxRecDepth 40000 in
theorem zl6_16 : u_lay zR6 zT6 16 ∈ zbw := zin 644 rfl rfl
set_option maxRecDepth 40000 in
theorem zl6_17 : u_lay zR6 zT6 17 ∈ zbw := zin 646 rfl rfl
set_option maxRecDepth 40000 in
theorem zl6_18 : u_lay zR6 zT6 18 ∈ zbw := zin 648 rfl rfl
set_option maxRecDepth 40000 in
theorem zlw6 : ∀ w ∈ u_ws zR6 zT6 19, w ∈ zbw := by
  intro w hw
  obtain ⟨k, hk, rfl⟩ := List.mem_map.mp hw
  have hk := List.mem_range.mp hk
  rcases (show k = 0 ∨ k = 1 ∨ k = 2 ∨ k = 3 ∨ k = 4 ∨ k = 5 ∨ k = 6 ∨ k = 7 ∨ k = 8 ∨ k = 9 ∨ k = 10 ∨ k = 11 ∨ k = 12 ∨ k = 13 ∨ k = 14 ∨ k = 15 ∨ k = 16 ∨ k = 17 ∨ k = 18 by omega) with rfl | rfl | rfl | rfl | rfl | rfl | rfl | rfl | rfl | rfl | rfl | rfl | rfl | rfl | rfl | rfl | rfl | rfl | rfl
  · exact zl6_0
  · exact zl6_1
  · exact zl6_2
  · exact zl6_3
  · exact zl6_4
  · exact zl6_5
  · exact zl6_6
  · exact zl6_7
  · exact zl6_8
  · exact zl6_9
  · exact zl6_10
  · exact zl6_11
  · exact zl6_12
  · exact zl6_13
  · exact zl6_14
  · exact zl6_15
  · exact zl6_16
  · exact zl6_17
  · exact zl6_18
theorem zlw {c : Nat} (h : c < 7) : ∀ w ∈ u_ws (zRR c) (zTT c) (zNF c), w ∈ zbw := by
  rcases (show c = 0 ∨ c = 1 ∨ c = 2 ∨ c = 3 ∨ c = 4 ∨ c = 5 ∨ c = 6 by omega) with rfl | rfl | rfl | rfl | rfl | rfl | rfl
  · exact zlw0
  · exact zlw1
  · exact zlw2
  · exact zlw3
  · exact zlw4
  · exact zlw5
  · exact zlw6
theorem zYY_ok {c : Nat} (h : c < 7) : ∀ k, k < zNF c → parseFieldDescriptor (zTT c k).2.2.1 = some (zYY c k) := by
  rcases (show c = 0 ∨ c = 1 ∨ c = 2 ∨ c = 3 ∨ c = 4 ∨ c = 5 ∨ c = 6 by omega) with rfl | rfl | rfl | rfl | rfl | rfl | rfl
  · exact zY0_ok
  · exact zY1_ok
  · exact zY2_ok
  · exact zY3_ok
  · exact zY4_ok
  · exact zY5_ok
  · exact zY6_ok
theorem zNN {c : Nat} (h : c < 7) : ∀ a, a < zNF c → ∀ b, b < zNF c → a ≠ b → (zTT c a).2.1 ≠ (zTT c b).2.1 := by
  rcases (show c = 0 ∨ c = 1 ∨ c = 2 ∨ c = 3 ∨ c = 4 ∨ c = 5 ∨ c = 6 by omega) with rfl | rfl | rfl | rfl | rfl | rfl | rfl
  · exact zN0
  · exact zN1
  · exact zN2
  · exact zN3
  · exact zN4
  · exact zN5
  · exact zN6
/-- the shape of the heap: of the cell at each place its kind (a class, 7 chars, 8 ints, 9 states) and its length -/
def zSl : List (Nat × Nat) := [(5, 6), (4, 8), (8, 8), (8, 8), (8, 8), (8, 4), (1, 4), (8, 28), (8, 28), (8, 28), (4, 8), (8, 8), (8, 8), (8, 8), (8, 4), (1, 4), (8, 28), (8, 28), (8, 28), (2, 3), (9, 4), (4, 8), (8, 8), (8, 8), (8, 8), (8, 4), (1, 4), (8, 28), (8, 28), (8, 28), (4, 8), (8, 8), (8, 8), (8, 8), (8, 4), (1, 4), (8, 28), (8, 28), (8, 28), (4, 8), (8, 8), (8, 8), (8, 8), (8, 4), (1, 4), (8, 28), (8, 28), (8, 28), (4, 8), (8, 8), (8, 8), (8, 8), (8, 4), (1, 4), (8, 28), (8, 28), (8, 28), (0, 6), (7, 60), (8, 16), (8, 16), (8, 16), (3, 7), (4, 8), (8, 8), (8, 8), (8, 8), (8, 4), (1, 4), (8, 28), (8, 28), (8, 28), (8, 8), (8, 8), (8, 8), (8, 8), (6, 19), (8, 150), (8, 600), (8, 150), (8, 8), (8, 8), (8, 8), (7, 60)]
def zSk (k : Nat) : Nat := (zSl.getD k (99, 0)).1
def zSn (k : Nat) : Nat := (zSl.getD k (99, 0)).2
/-- where its references go -/
def zHl : List (List Nat) := [[1, 10, 0, 19, 57, 62], [0, 0, 0, 2, 3, 4, 5, 6], [], [], [], [], [0, 7, 8, 9], [], [], [], [0, 0, 0, 11, 12, 13, 14, 15], [], [], [], [], [0, 16, 17, 18], [], [], [], [0, 0, 20], [21, 30, 39, 48], [0, 0, 0, 22, 23, 24, 25, 26], [], [], [], [], [0, 27, 28, 29], [], [], [], [0, 0, 0, 31, 32, 33, 34, 35], [], [], [], [], [0, 36, 37, 38], [], [], [], [0, 0, 0, 40, 41, 42, 43, 44], [], [], [], [], [0, 45, 46, 47], [], [], [], [0, 0, 0, 49, 50, 51, 52, 53], [], [], [], [], [0, 54, 55, 56], [], [], [], [0, 58, 0, 59, 60, 61], [], [], [], [], [63, 72, 73, 74, 75, 0, 0], [0, 0, 0, 64, 65, 66, 67, 68], [], [], [], [], [0, 69, 70, 71], [], [], [], [], [], [], [], [77, 78, 0, 79, 0, 80, 81, 82, 0, 0, 0, 0, 0, 0, 83, 0, 0, 0, 0], [], [], [], [], [], [], []]
def zHR (k j : Nat) : Nat := (zHl.getD k []).getD j 0
theorem zSk_lt {k c : Nat} (h : zSk k = c) (hc : c < 99) : k < 84 := by
  rcases Nat.lt_or_ge k 84 with q | q
  · exact q
  · have h1 : zSl[k]? = none := List.getElem?_eq_none q
    have h2 : zSk k = 99 := by simp only [zSk, List.getD_eq_getElem?_getD, h1]; rfl
    omega
theorem zSk_nf : ∀ k, k < 84 → zSk k < 7 → zSn k = zNF (zSk k) := by decide +kernel
def zFT (c k : Nat) : Nat := match zYY c k with
  | .int => 0
  | .boolean => 1
  | _ => 2
end
section
/-! A small machine of our own: places instead of addresses, whole numbers in rows of the heap, the code as a list; what it answers is a function. -/
abbrev zV : Type := Int32 ⊕ Nat
abbrev zLs : Type := List (Option zV)
abbrev zHp : Type := Nat → Nat → Int32
abbrev zRs : Type := Option (Option Int32 × zHp)
abbrev zOr : Type := Nat → List zV → zHp → zRs
/-- an instruction: its place, itself, its length, a number, and three more -/
abbrev zE : Type := Nat × Instr × Nat × Int32 × Nat × Nat × Nat
abbrev zN : Type := Nat × zLs × List zV × zHp
abbrev zD : Type := Option ((Bool × Option Int32) ⊕ ((Bool × Nat × List zV × Nat × zLs × List zV) ⊕ (Bool × Option zN × Option zN)))
abbrev zSc : Type := Nat × (Nat → Int32)
def zlook : List zE → Nat → Option zE
  | [], _ => none
  | q :: t, pc => if Nat.beq q.1 pc then some q else zlook t pc
def znth : zLs → Nat → Option (Option zV)
  | [], _ => none
  | a :: _, 0 => some a
  | _ :: t, i + 1 => znth t i
def zset : zLs → Nat → Option zV → zLs
  | [], _, _ => []
  | _ :: t, 0, x => x :: t
  | a :: t, i + 1, x => a :: zset t i x
def zup (h : zHp) (a k : Nat) (x : Int32) : zHp := fun b j => if b = a ∧ j = k then x else h b j
def zcp (h : zHp) (s d sp dp n : Nat) : zHp := fun b j => if b = d then va_cpy (h s) (h d) sp dp n j else h b j
def zib (i : Int32) (n : Nat) : Bool := !(decide (i < 0) || Nat.ble n i.toNatClampNeg)
def zbo (x : Int32) : Bool := decide (x = nI 0) || decide (x = nI 1)
def znz (x : Int32) : Bool := !decide (x = nI 0)
def zgo (n : zN) : zD := some (.inr (.inr (true, some n, none)))
def zif (b : Bool) (n : zN) : zD := some (.inr (.inr (b, some n, none)))
def zbr (b : Bool) (n1 n2 : zN) : zD := some (.inr (.inr (b, some n1, some n2)))
def zldI (ls : zLs) (k pc : Nat) (st : List zV) (h : zHp) : zD := match znth ls k with
  | some (some (.inl x)) => zgo (pc, ls, .inl x :: st, h)
  | _ => none
def zldA (ls : zLs) (k pc : Nat) (st : List zV) (h : zHp) : zD := match znth ls k with
  | some (some (.inr x)) => zgo (pc, ls, .inr x :: st, h)
  | _ => none
def zstI (ls : zLs) (k pc : Nat) (st : List zV) (h : zHp) : zD := match st with
  | .inl x :: r => zif (Nat.blt k ls.length) (pc, zset ls k (some (.inl x)), r, h)
  | _ => none
def zinc (ls : zLs) (k pc : Nat) (v : Int32) (st : List zV) (h : zHp) : zD := match znth ls k with
  | some (some (.inl x)) => zif (Nat.blt k ls.length) (pc, zset ls k (some (.inl (x + v))), st, h)
  | _ => none
def zop (f : Int32 → Int32 → Int32) (pc : Nat) (ls : zLs) (st : List zV) (h : zHp) : zD := match st with
  | .inl y :: .inl x :: r => zgo (pc, ls, .inl (f x y) :: r, h)
  | _ => none
def zdv (nz : Int32 → Bool) (f : Int32 → Int32 → Int32) (pc : Nat) (ls : zLs) (st : List zV) (h : zHp) : zD := match st with
  | .inl y :: .inl x :: r => zif (nz y) (pc, ls, .inl (f x y) :: r, h)
  | _ => none
def zci (c : ClassFile.Cond) (x y : Int32) : Bool := match c with
  | .eq => decide (x = y)
  | .ne => !decide (x = y)
  | .lt => decide (x < y)
  | .ge => decide (y ≤ x)
  | .gt => decide (y < x)
  | .le => decide (x ≤ y)
def zcv (r : List zV) (j n pc : Nat) (mci : Nat → Nat) (ls : zLs) : List zV → zD
  | .inr o :: rest => some (.inr (.inl (Nat.beq (zSk o) (mci j) && Nat.beq r.length n && Nat.ble rest.length 8, j, .inr o :: r.reverse, pc, ls, rest)))
  | _ => none
def zstp (ib : Int32 → Nat → Bool) (ci : ClassFile.Cond → Int32 → Int32 → Bool) (bo nz : Int32 → Bool) (mci : Nat → Nat) (rb : Bool) (scr : zSc) (q : zE) (ls : zLs) (st : List zV) (h : zHp) : zD :=
  match q with
  | (pc, ins, len, v, t, a, b) => match ins with
    | .iload_n k => zldI ls k (pc + 1) st h
    | .iload k => zldI ls k (pc + 2) st h
    | .aload_n k => zldA ls k (pc + 1) st h
    | .istore_n k => zstI ls k (pc + 1) st h
    | .istore k => zstI ls k (pc + 2) st h
    | .iinc k _ => zinc ls k (pc + 3) v st h
    | .iconst _ => zgo (pc + 1, ls, .inl v :: st, h)
    | .bipush _ => zgo (pc + 2, ls, .inl v :: st, h)
    | .sipush _ => zgo (pc + 3, ls, .inl v :: st, h)
    | .ldc_w _ => zgo (pc + 3, ls, .inl v :: st, h)
    | .iadd => zop (fun x y => x + y) (pc + 1) ls st h
    | .isub => zop (fun x y => x - y) (pc + 1) ls st h
    | .imul => zop (fun x y => x * y) (pc + 1) ls st h
    | .iand => zop (fun x y => x &&& y) (pc + 1) ls st h
    | .ior => zop (fun x y => x ||| y) (pc + 1) ls st h
    | .ixor => zop (fun x y => x ^^^ y) (pc + 1) ls st h
    | .ishl => zop (fun x y => x <<< (y &&& 31)) (pc + 1) ls st h
    | .ishr => zop (fun x y => x >>> (y &&& 31)) (pc + 1) ls st h
    | .iushr => zop (fun x y => (x.toUInt32 >>> (y.toUInt32 &&& Int32.toUInt32 31)).toInt32) (pc + 1) ls st h
    | .idiv => zdv nz (fun x y => x / y) (pc + 1) ls st h
    | .irem => zdv nz (fun x y => x - x / y * y) (pc + 1) ls st h
    | .i2c => match st with
      | .inl x :: r => zgo (pc + 1, ls, .inl ((x.toUInt32 % 65536).toInt32) :: r, h)
      | _ => none
    | .if_icmp c _ => match st with
      | .inl y :: .inl x :: r => zbr (ci c x y) (t, ls, r, h) (pc + 3, ls, r, h)
      | _ => none
    | .ifCond c _ => match st with
      | .inl x :: r => zbr (ci c x (nI 0)) (t, ls, r, h) (pc + 3, ls, r, h)
      | _ => none
    | .goto _ => zgo (t, ls, st, h)
    | .tableswitch d lo hi offs => match st with
      | .inl x :: r => some (.inr (.inr (decide (x.toInt < lo) || decide (hi < x.toInt), some (t, ls, r, h), match offs[(x.toInt - lo).toNat]? with
        | some off => if 0 ≤ (pc : Int) + off then some (((pc : Int) + off).toNat, ls, r, h) else none
        | none => none)))
      | _ => none
    | .dup => match st with
      | x :: r => zgo (pc + 1, ls, x :: x :: r, h)
      | _ => none
    | .dup2 => match st with
      | x :: y :: r => zgo (pc + 1, ls, x :: y :: x :: y :: r, h)
      | _ => none
    | .pop => match st with
      | _ :: r => zgo (pc + 1, ls, r, h)
      | _ => none
    | .getfield _ => match st with
      | .inr o :: r => zif (Nat.beq (zSk o) a) (pc + 3, ls, (if Nat.beq (zFT a b) 2 then .inr (zHR o b) else .inl (h o b)) :: r, h)
      | _ => none
    | .putfield _ => match st with
      | .inl x :: .inr o :: r => zif (Nat.beq (zSk o) a && (Nat.beq (zFT a b) 0 || bo x)) (pc + 3, ls, r, zup h o b x)
      | _ => none
    | .iaload => match st with
      | .inl i :: .inr o :: r => if Nat.beq t 1 then zif (Nat.beq o 84 && ib i scr.1) (pc + 1, ls, .inl (scr.2 i.toNatClampNeg) :: r, h) else zif (Nat.beq (zSk o) 8 && ib i (zSn o)) (pc + 1, ls, .inl (h o i.toNatClampNeg) :: r, h)
      | _ => none
    | .caload => match st with
      | .inl i :: .inr o :: r => zif (Nat.beq (zSk o) 7 && ib i (zSn o)) (pc + 1, ls, .inl (h o i.toNatClampNeg) :: r, h)
      | _ => none
    | .aaload => match st with
      | .inl i :: .inr o :: r => zif (Nat.beq (zSk o) 9 && ib i (zSn o)) (pc + 1, ls, .inr (zHR o i.toNatClampNeg) :: r, h)
      | _ => none
    | .iastore => match st with
      | .inl x :: .inl i :: .inr o :: r => zif (Nat.beq (zSk o) 8 && ib i (zSn o)) (pc + 1, ls, r, zup h o i.toNatClampNeg x)
      | _ => none
    | .castore => match st with
      | .inl x :: .inl i :: .inr o :: r => zif (Nat.beq (zSk o) 7 && ib i (zSn o)) (pc + 1, ls, r, zup h o i.toNatClampNeg (vp_nar .char x))
      | _ => none
    | .arraylength => match st with
      | .inr o :: r => zif (Nat.beq t 1 && Nat.beq o 84) (pc + 1, ls, .inl (Int32.ofNat scr.1) :: r, h)
      | _ => none
    | .ireturn => match st with
      | [.inl x] => some (.inl (!rb || bo x, some x))
      | _ => none
    | .return_ => match st with
      | [] => some (.inl (true, none))
      | _ => none
    | .invokevirtual _ => zcv (st.take b) a b (pc + 3) mci ls (st.drop b)
    | .invokestatic _ => match t with
      | 3 => match st with
        | .inl y :: .inl x :: r => zif (Nat.ble r.length 8) (pc + 3, ls, .inl (if y < x then y else x) :: r, h)
        | _ => none
      | 4 => match st with
        | .inl y :: .inl x :: r => zif (Nat.ble r.length 8) (pc + 3, ls, .inl (if x < y then y else x) :: r, h)
        | _ => none
      | 5 => match st with
        | .inl n :: .inl dp :: .inr d :: .inl sp :: .inr s :: r => zif (Nat.beq (zSk s) 8 && Nat.beq (zSk d) 8 && (!decide (sp < 0) && !decide (dp < 0) && !decide (n < 0)) && Nat.ble (sp.toNatClampNeg + n.toNatClampNeg) (zSn s) && Nat.ble (dp.toNatClampNeg + n.toNatClampNeg) (zSn d) && Nat.ble r.length 8) (pc + 3, ls, r, zcp h s d sp.toNatClampNeg dp.toNatClampNeg n.toNatClampNeg)
        | _ => none
      | _ => some (.inr (.inl (Nat.beq (st.take b).length b && Nat.ble (st.drop b).length 8, a, (st.take b).reverse, pc + 3, ls, st.drop b)))
    | _ => none
def zpush (v : Option Int32) (st : List zV) : List zV := match v with
  | some x => .inl x :: st
  | none => st
/-- the run of a code from a place on -/
def zrun (mci : Nat → Nat) (code : List zE) (rb : Bool) (scr : zSc) (orc : zOr) (pc : Nat) (ls : zLs) (st : List zV) (h : zHp) : zRs :=
  match zlook code pc with
  | none => none
  | some q => match zstp zib zci zbo znz mci rb scr q ls st h with
    | none => none
    | some (.inl (b, v)) => if b = true then some (v, h) else none
    | some (.inr (.inl (b, j, as, pc', ls', rest))) => if b = true then (orc j as h) >>= (fun r => zrun mci code rb scr orc pc' ls' (zpush r.1 rest) r.2) else none
    | some (.inr (.inr (b, n1, n2))) => if b = true then (match n1 with
        | none => none
        | some n => zrun mci code rb scr orc n.1 n.2.1 n.2.2.1 n.2.2.2) else (match n2 with
        | none => none
        | some n => zrun mci code rb scr orc n.1 n.2.1 n.2.2.1 n.2.2.2)
partial_fixpoint
/-- one step, and then what 'K' says; the tests are variables, so that none of them is computed -/
def zone (ib : Int32 → Nat → Bool) (ci : ClassFile.Cond → Int32 → Int32 → Bool) (bo nz : Int32 → Bool) (mci : Nat → Nat) (code : List zE) (rb : Bool) (scr : zSc) (orc : zOr) (K : Nat → zLs → List zV → zHp → zRs) (pc : Nat) (ls : zLs) (st : List zV) (h : zHp) : zRs :=
  match zlook code pc with
  | none => none
  | some q => match zstp ib ci bo nz mci rb scr q ls st h with
    | none => none
    | some (.inl (b, v)) => if b = true then some (v, h) else none
    | some (.inr (.inl (b, j, as, pc', ls', rest))) => if b = true then (orc j as h).bind (fun r => K pc' ls' (zpush r.1 rest) r.2) else none
    | some (.inr (.inr (b, n1, n2))) => if b = true then (match n1 with
        | none => none
        | some n => K n.1 n.2.1 n.2.2.1 n.2.2.2) else (match n2 with
        | none => none
        | some n => K n.1 n.2.1 n.2.2.1 n.2.2.2)
/-- some steps, but none through the places 'cut', and then 'K' -/
def zgos (ib : Int32 → Nat → Bool) (ci : ClassFile.Cond → Int32 → Int32 → Bool) (bo nz : Int32 → Bool) (mci : Nat → Nat) (code : List zE) (rb : Bool) (scr : zSc) (orc : zOr) (cut : List Nat) (K : Nat → zLs → List zV → zHp → zRs) : Nat → Nat → zLs → List zV → zHp → zRs
  | 0 => K
  | n + 1 => fun pc ls st h => if cut.elem pc then K pc ls st h else zone ib ci bo nz mci code rb scr orc (zgos ib ci bo nz mci code rb scr orc cut K n) pc ls st h
theorem zrun_one (mci : Nat → Nat) (code : List zE) (rb : Bool) (scr : zSc) (orc : zOr) : zrun mci code rb scr orc = zone zib zci zbo znz mci code rb scr orc (zrun mci code rb scr orc) := by
  funext pc ls st h
  rw [zrun.eq_1]
  rfl
theorem zgos_eq (mci : Nat → Nat) (code : List zE) (rb : Bool) (scr : zSc) (orc : zOr) (cut : List Nat) : ∀ n, zgos zib zci zbo znz mci code rb scr orc cut (zrun mci code rb scr orc) n = zrun mci code rb scr orc := by
  intro n
  induction n with
  | zero => rfl
  | succ n ih =>
    funext pc ls st h
    show (if cut.elem pc then zrun mci code rb scr orc pc ls st h else zone zib zci zbo znz mci code rb scr orc (zgos zib zci zbo znz mci code rb scr orc cut (zrun mci code rb scr orc) n) pc ls st h) = _
    rw [ih]
    split
    · rfl
    · exact (congrFun (congrFun (congrFun (congrFun (zrun_one mci code rb scr orc) pc) ls) st) h).symm
/-- from a place on: the first step is made in any case -/
theorem zrun_go (mci : Nat → Nat) (code : List zE) (rb : Bool) (scr : zSc) (orc : zOr) (cut : List Nat) (n : Nat) (pc : Nat) (ls : zLs) (st : List zV) (h : zHp) : zrun mci code rb scr orc pc ls st h = zone zib zci zbo znz mci code rb scr orc (zgos zib zci zbo znz mci code rb scr orc cut (zrun mci code rb scr orc) n) pc ls st h := by
  rw [zgos_eq]
  exact congrFun (congrFun (congrFun (congrFun (zrun_one mci code rb scr orc) pc) ls) st) h
end
section
/-! The small machine's heap as the kit's world, its frames as the machine's frames. -/
def ztr (ad : Nat → Nat) : zV → Value
  | .inl x => .int x
  | .inr k => .ref (ad k)
def zfs (ad : Nat → Nat) (h : zHp) (c k : Nat) : List Value := (List.range (zNF c)).map (fun j => if Nat.beq (zFT c j) 2 then .ref (ad (zHR k j)) else .int (h k j))
def zent (ad : Nat → Nat) (cI cC cS : ClassId) (h : zHp) (k : Nat) : va_E := match zSk k with
  | 7 => .inl (cC, zSn k, .inl (h k))
  | 8 => .inl (cI, zSn k, .inl (h k))
  | 9 => .inl (cS, zSn k, .inr (.inr (.inr (.inr (fun j => some (ad (zHR k j)))))))
  | c => .inr (c, zfs ad h c k)
def zWS (ad : Nat → Nat) (cI cC cS : ClassId) (h : zHp) : va_W := (List.range 84).map (fun k => (ad k, zent ad cI cC cS h k))
def zAD (ad : Nat → Nat) : Nat → Prop := fun q => ∃ k : Nat, k < 84 ∧ q = ad k
abbrev zty (cI cC cS : ClassId) : List (ClassId × FieldType) := [(cI, .int), (cC, .char), (cS, .object "BorderPaints$State")]
def zNL : List (String × Nat × MethodName × String) := [("BorderPaints$State", 51, ⟨"BorderPaints", "isNumber", "(I)Z"⟩, "BorderPaints"), ("BorderPaints$State", 55, ⟨"BorderPaints", "has", "(II)Z"⟩, "BorderPaints"), ("BorderPaints$Repainter", 63, ⟨"BorderPaints", "has", "(II)Z"⟩, "BorderPaints")]
def zNE (U : State) : Prop := ∀ n ∈ zNL, va_Nw (.methodLinkNest n.1 n.2.1 n.2.2.1 n.2.2.2) U
def zWD (dC : Nat → ClassId) (dI : Nat → Nat → Nat) (ad : Nat → Nat) (cI cC cS : ClassId) (h : zHp) (U : State) : Prop :=
  va_P (dC, dI) zCl (zWS ad cI cC cS h) U.heap ∧ va_K (dC, dI) zCl (zty cI cC cS) U ∧ zNE U
/-- the addresses are apart -/
def zap (ad : Nat → Nat) : Prop := ∀ i j : Nat, i < 84 → j < 84 → ad i = ad j → i = j
theorem zWS_at {ad : Nat → Nat} {cI cC cS : ClassId} {h : zHp} {k : Nat} (hk : k < 84) : (zWS ad cI cC cS h)[k]? = some (ad k, zent ad cI cC cS h k) := by
  simp [zWS, hk]
theorem zWS_inv {ad : Nat → Nat} {cI cC cS : ClassId} {h : zHp} {k : Nat} {q : Nat × va_E} (hq : (zWS ad cI cC cS h)[k]? = some q) : k < 84 ∧ q = (ad k, zent ad cI cC cS h k) := by
  have h1 : k < 84 := by
    have h2 := (List.getElem?_eq_some_iff.mp hq).1
    simpa [zWS] using h2
  refine ⟨h1, ?_⟩
  rw [zWS_at h1] at hq
  exact (Option.some.inj hq).symm
theorem zWS_D {ad : Nat → Nat} {cI cC cS : ClassId} {A : Nat → Prop} (ha : zap ad) (hA : ∀ k, k < 84 → A (ad k)) (h : zHp) : va_D A (zWS ad cI cC cS h) := by
  refine ⟨fun i j p q hi hj hpq => ?_, fun k q hk => ?_⟩
  · obtain ⟨h1, rfl⟩ := zWS_inv hi
    obtain ⟨h2, rfl⟩ := zWS_inv hj
    exact ha i j h1 h2 hpq
  · obtain ⟨h1, rfl⟩ := zWS_inv hk
    exact hA k h1
theorem zent_congr {ad : Nat → Nat} {cI cC cS : ClassId} {h h' : zHp} {k : Nat} (hk : h' k = h k) : zent ad cI cC cS h' k = zent ad cI cC cS h k := by
  simp only [zent, zfs, hk]
theorem zWS_set {ad : Nat → Nat} {cI cC cS : ClassId} {h h' : zHp} {k : Nat} {e : va_E} (he : zent ad cI cC cS h' k = e) (ho : ∀ i, i ≠ k → h' i = h i) : (zWS ad cI cC cS h).set k (ad k, e) = zWS ad cI cC cS h' := by
  apply List.ext_getElem?
  intro i
  by_cases hi : i < 84
  · by_cases hk : i = k
    · subst hk
      rw [zWS_at hi, List.getElem?_set_self (by simp [zWS, hi]), he]
    · rw [zWS_at hi, List.getElem?_set_ne (fun e => hk e.symm), zWS_at hi, zent_congr (ho i hk)]
  · rw [List.getElem?_eq_none (by simp [zWS]; omega), List.getElem?_eq_none (by simp [zWS]; omega)]
theorem zent_obj {ad : Nat → Nat} {cI cC cS : ClassId} {h : zHp} {k c : Nat} (hk : zSk k = c) (hc : c < 7) : zent ad cI cC cS h k = .inr (c, zfs ad h c k) := by
  unfold zent
  rw [hk]
  rcases (show c = 0 ∨ c = 1 ∨ c = 2 ∨ c = 3 ∨ c = 4 ∨ c = 5 ∨ c = 6 by omega) with rfl | rfl | rfl | rfl | rfl | rfl | rfl <;> rfl
theorem zent_char {ad : Nat → Nat} {cI cC cS : ClassId} {h : zHp} {k : Nat} (hk : zSk k = 7) : zent ad cI cC cS h k = .inl (cC, zSn k, .inl (h k)) := by
  unfold zent
  rw [hk]
  rfl
theorem zent_int {ad : Nat → Nat} {cI cC cS : ClassId} {h : zHp} {k : Nat} (hk : zSk k = 8) : zent ad cI cC cS h k = .inl (cI, zSn k, .inl (h k)) := by
  unfold zent
  rw [hk]
  rfl
theorem zent_sts {ad : Nat → Nat} {cI cC cS : ClassId} {h : zHp} {k : Nat} (hk : zSk k = 9) : zent ad cI cC cS h k = .inl (cS, zSn k, .inr (.inr (.inr (.inr (fun j => some (ad (zHR k j))))))) := by
  unfold zent
  rw [hk]
  rfl
theorem zfs_len {ad : Nat → Nat} {h : zHp} {c k : Nat} : (zfs ad h c k).length = zNF c := by simp [zfs]
theorem zfs_at {ad : Nat → Nat} {h : zHp} {c k j : Nat} (hj : j < zNF c) : (zfs ad h c k)[j]? = some (ztr ad (if Nat.beq (zFT c j) 2 then .inr (zHR k j) else .inl (h k j))) := by
  simp only [zfs, List.getElem?_map, List.getElem?_range hj, Option.map_some]
  split <;> rfl
theorem zup_ne {h : zHp} {a k : Nat} {x : Int32} {b : Nat} (hb : b ≠ a) : zup h a k x b = h b := by
  funext j
  simp [zup, hb]
theorem zup_row {h : zHp} {a k : Nat} {x : Int32} : zup h a k x a = upd (h a) k x := by
  funext j
  simp [zup, upd]
theorem zfs_set {ad : Nat → Nat} {h : zHp} {c k j : Nat} {x : Int32} (hj : j < zNF c) (hf : Nat.beq (zFT c j) 2 = false) : (zfs ad h c k).set j (.int x) = zfs ad (zup h k j x) c k := by
  apply List.ext_getElem?
  intro i
  by_cases hi : i < zNF c
  · by_cases hij : i = j
    · subst hij
      rw [List.getElem?_set_self (by rw [zfs_len]; exact hi), zfs_at hi, hf]
      simp [ztr, zup]
    · rw [List.getElem?_set_ne (fun e => hij e.symm), zfs_at hi, zfs_at hi]
      simp [zup, hij]
  · rw [List.getElem?_eq_none (by simp [zfs_len]; omega), List.getElem?_eq_none (by simp [zfs_len]; omega)]
def zll (ad : Nat → Nat) : Nat → zLs → List (Nat × Value)
  | _, [] => []
  | i, none :: t => zll ad (i + 1) t
  | i, some v :: t => (i, ztr ad v) :: zll ad (i + 1) t
theorem zll_mem {ad : Nat → Nat} {v : zV} : ∀ (ls : zLs) (i k : Nat), znth ls k = some (some v) → (i + k, ztr ad v) ∈ zll ad i ls := by
  intro ls
  induction ls with
  | nil => intro i k h; cases h
  | cons a t ih =>
    intro i k h
    cases k with
    | zero =>
      have h : a = some v := Option.some.inj h
      subst h
      exact List.mem_cons_self
    | succ k =>
      have h1 := ih (i + 1) k h
      rw [show i + 1 + k = i + (k + 1) by omega] at h1
      cases a with
      | none => exact h1
      | some w => exact List.mem_cons_of_mem _ h1
theorem zll_inv {ad : Nat → Nat} : ∀ (ls : zLs) (i : Nat) (q : Nat × Value), q ∈ zll ad i ls → ∃ (k : Nat) (v : zV), q = (i + k, ztr ad v) ∧ znth ls k = some (some v) := by
  intro ls
  induction ls with
  | nil => intro i q h; cases h
  | cons a t ih =>
    intro i q h
    have up : q ∈ zll ad (i + 1) t → ∃ (k : Nat) (v : zV), q = (i + k, ztr ad v) ∧ znth (a :: t) k = some (some v) := by
      intro h1
      obtain ⟨k, v, h2, h3⟩ := ih (i + 1) q h1
      exact ⟨k + 1, v, by rw [h2, show i + 1 + k = i + (k + 1) by omega], h3⟩
    cases a with
    | none => exact up h
    | some w =>
      rcases List.mem_cons.mp h with h | h
      · exact ⟨0, w, h, rfl⟩
      · exact up h
theorem znth_set : ∀ (ls : zLs) (k j : Nat) (x : Option zV), znth (zset ls k x) j = if j = k ∧ k < ls.length then some x else znth ls j := by
  intro ls
  induction ls with
  | nil => intro k j x; simp [zset]
  | cons a t ih =>
    intro k j x
    cases k with
    | zero =>
      cases j with
      | zero => simp [zset, znth]
      | succ j => simp [zset, znth]
    | succ k =>
      cases j with
      | zero => simp [zset, znth]
      | succ j => simp [zset, znth, ih]
theorem zset_len : ∀ (ls : zLs) (k : Nat) (x : Option zV), (zset ls k x).length = ls.length := by
  intro ls
  induction ls with
  | nil => intro k x; rfl
  | cons a t ih =>
    intro k x
    cases k with
    | zero => rfl
    | succ k => simp [zset, ih]
/-- the machine's locals hold the small machine's -/
def zLR (ad : Nat → Nat) (lj : Array Slot) (nL : Nat) (ls : zLs) : Prop := ls.length = nL ∧ lv_has lj nL (zll ad 0 ls)
theorem ztr_cat (ad : Nat → Nat) (v : zV) : (ztr ad v).category = 1 := by cases v <;> rfl
theorem zLR_get {ad : Nat → Nat} {lj : Array Slot} {nL : Nat} {ls : zLs} {k : Nat} {v : zV} (h : zLR ad lj nL ls) (hk : znth ls k = some (some v)) : lj[k]? = some (.val (ztr ad v)) := by
  have h1 := zll_mem (ad := ad) ls 0 k hk
  rw [Nat.zero_add] at h1
  exact h.2.2.2 _ h1
theorem zLR_set {ad : Nat → Nat} {lj lj' : Array Slot} {nL : Nat} {ls : zLs} {k : Nat} {v : zV} (hn : ls.length = nL) (hk : k < nL)
    (h : lv_has lj' nL ((k, ztr ad v) :: (zll ad 0 ls).filter (fun q => !(q.1 == k) && !(q.1 + 1 == k && q.2.category == 2)))) : zLR ad lj' nL (zset ls k (some v)) := by
  refine ⟨by rw [zset_len]; exact hn, h.1, h.2.1, fun q hq => ?_⟩
  obtain ⟨j, w, rfl, hw⟩ := zll_inv _ _ _ hq
  rw [Nat.zero_add]
  rw [znth_set] at hw
  by_cases hj : j = k
  · subst hj
    rw [if_pos ⟨rfl, by omega⟩] at hw
    cases hw
    exact h.2.2 _ List.mem_cons_self
  · rw [if_neg (fun e => hj e.1)] at hw
    have h1 := zll_mem (ad := ad) ls 0 j hw
    rw [Nat.zero_add] at h1
    refine h.2.2 (j, ztr ad w) (List.mem_cons_of_mem _ (List.mem_filter.mpr ⟨h1, ?_⟩))
    have h2 : (ztr ad w).category = 1 := ztr_cat ad w
    simp [hj, h2]
theorem zcat_sum (ad : Nat → Nat) (st : List zV) : ((st.map (ztr ad)).map fun v => v.category).sum = st.length := by
  induction st with
  | nil => rfl
  | cons a t ih => simp only [List.map_cons, List.sum_cons, ih, ztr_cat, List.length_cons]; omega
theorem zlook_mem : ∀ (code : List zE) (pc : Nat) (q : zE), zlook code pc = some q → q ∈ code ∧ q.1 = pc := by
  intro code
  induction code with
  | nil => intro pc q h; cases h
  | cons a t ih =>
    intro pc q h
    unfold zlook at h
    by_cases hb : Nat.beq a.1 pc = true
    · rw [if_pos hb] at h
      cases h
      exact ⟨List.mem_cons_self, Nat.eq_of_beq_eq_true hb⟩
    · rw [if_neg hb] at h
      obtain ⟨h1, h2⟩ := ih pc q h
      exact ⟨List.mem_cons_of_mem _ h1, h2⟩
end
section
/-! The small machine's run is the machine's. -/
def zlen (n : Nat) : Instr → Nat
  | .iload_n _ => 1
  | .iload _ => 2
  | .aload_n _ => 1
  | .istore_n _ => 1
  | .istore _ => 2
  | .iinc _ _ => 3
  | .iconst _ => 1
  | .bipush _ => 2
  | .sipush _ => 3
  | .ldc_w _ => 3
  | .iadd => 1
  | .isub => 1
  | .imul => 1
  | .iand => 1
  | .ior => 1
  | .ixor => 1
  | .ishl => 1
  | .ishr => 1
  | .iushr => 1
  | .idiv => 1
  | .irem => 1
  | .i2c => 1
  | .if_icmp _ _ => 3
  | .ifCond _ _ => 3
  | .goto _ => 3
  | .dup => 1
  | .dup2 => 1
  | .pop => 1
  | .getfield _ => 3
  | .putfield _ => 3
  | .iaload => 1
  | .caload => 1
  | .aaload => 1
  | .iastore => 1
  | .castore => 1
  | .arraylength => 1
  | .ireturn => 1
  | .return_ => 1
  | .invokevirtual _ => 3
  | .invokestatic _ => 3
  | _ => n
/-- what a call wants of the tables: the callee's own words -/
def zcl (y : MethodName) (b : ByteArray) (ml : Nat) (rt : Option FieldType) (n : Nat) : Prop :=
  Jvm.Cond.initialized y.cls ∈ zbw ∧ Jvm.Cond.code y b ml rt ∈ zbw ∧ (y.cls ≠ "java/lang/invoke/MethodHandle" ∧ y.cls ≠ "java/lang/invoke/VarHandle" ∧ (parseMethodDescriptor y.desc).map (fun d => d.parameters.length) = some n) ∧ ml ≤ 40
/-- the same, and how its answer comes -/
def zOK (yM : Nat → MethodName) (bM : Nat → ByteArray) (lM : Nat → Nat) (tM : Nat → Option FieldType) (mci : Nat → Nat) (i : Nat) (own : String) (sf : Bool) (q : zE) : Prop :=
  match q with
  | (pc, ins, _, v, t, a, b) => match ins with
    | .iconst n => Int32.ofInt n = v
    | .bipush n => (Int8.ofInt n).toInt32 = v
    | .sipush n => (Int16.ofInt n).toInt32 = v
    | .ldc_w x => Jvm.Cond.constant own x v ∈ zbw
    | .iinc _ n => Int32.ofInt n = v
    | .if_icmp _ off => (pc : Int) + off = (t : Int)
    | .ifCond _ off => (pc : Int) + off = (t : Int)
    | .goto off => (pc : Int) + off = (t : Int)
    | .tableswitch d _ _ _ => (pc : Int) + d = (t : Int)
    | .getfield x => a < 7 ∧ b < zNF a ∧ Jvm.Cond.fieldLink own x (zTT a b).1 (zTT a b).2.1 (zTT a b).2.2.1 ∈ zbw
    | .putfield x => a < 7 ∧ b < zNF a ∧ Jvm.Cond.fieldLink own x (zTT a b).1 (zTT a b).2.1 (zTT a b).2.2.1 ∈ zbw ∧ (zTT a b).2.2.2 = false
    | .iaload => t = 0 ∨ (t = 1 ∧ sf = true)
    | .arraylength => sf = true
    | .ireturn => (tM i).isSome = true
    | .return_ => tM i = none
    | .invokevirtual x => a < i ∧ mci a < 7 ∧ (yM a).cls = zRR (mci a) ∧ zcl (yM a) (bM a) (lM a) (tM a) b ∧ Jvm.Cond.methodLink own x (yM a) ∈ zbw ∧ Jvm.Cond.instanceMethod (yM a) ∈ zbw ∧ Jvm.Cond.selects (yM a).cls (yM a) (yM a) ∈ zbw
    | .invokestatic x => (t = 3 ∧ Jvm.Cond.methodLink own x Lib.Math.min.name ∈ zbw ∧ Jvm.Cond.static Lib.Math.min.name ∈ zbw ∧ Jvm.Cond.initialized "java/lang/Math" ∈ zbw ∧ Jvm.Cond.code Lib.Math.min.name Lib.Math.min.code 2 (some .int) ∈ zbw) ∨
      (t = 4 ∧ Jvm.Cond.methodLink own x Lib.Math.max.name ∈ zbw ∧ Jvm.Cond.static Lib.Math.max.name ∈ zbw ∧ Jvm.Cond.initialized "java/lang/Math" ∈ zbw ∧ Jvm.Cond.code Lib.Math.max.name Lib.Math.max.code 2 (some .int) ∈ zbw) ∨
      (t = 5 ∧ Jvm.Cond.methodLink own x arraycopyName ∈ zbw ∧ Jvm.Cond.native arraycopyName ∈ zbw ∧ Jvm.Cond.static arraycopyName ∈ zbw ∧ Jvm.Cond.initialized "java/lang/System" ∈ zbw) ∨
      (t = 1 ∧ a < i ∧ zcl (yM a) (bM a) (lM a) (tM a) b ∧ Jvm.Cond.static (yM a) ∈ zbw ∧ Jvm.Cond.methodLink own x (yM a) ∈ zbw) ∨
      (t = 2 ∧ a < i ∧ zcl (yM a) (bM a) (lM a) (tM a) b ∧ Jvm.Cond.static (yM a) ∈ zbw ∧ ∃ h, (own, x, yM a, h) ∈ zNL)
    | _ => True
def zwsM (yM : Nat → MethodName) (bM : Nat → ByteArray) (lM : Nat → Nat) (tM : Nat → Option FieldType) (i : Nat) : List Jvm.Cond := Jvm.Cond.code (yM i) (bM i) (lM i) (tM i) :: zbw
def zrm (i : Nat) : Room := { frames := i + 1, cells := 0, slots := 0, locals := 60 * (i + 1) }
/-- a method's answer, as the kit's ends have it -/
def zQ (dC : Nat → ClassId) (dI : Nat → Nat → Nat) (ad : Nat → Nat) (cI cC cS : ClassId) (r : Option Int32) (h : zHp) : Array Value → State → Outcome → State → Prop := match r with
  | some x => va_Qi (fun (y : Int32) (_ : Unit) => y = x) (fun _ t => zWD dC dI ad cI cC cS h t) (zAD ad)
  | none => va_Qv (fun (_ : Unit) => True) (fun _ t => zWD dC dI ad cI cC cS h t) (zAD ad)
/-- the contract of the method 'i', that it answers as 'f' does -/
def zCT (l : Launch) (dC : Nat → ClassId) (dI : Nat → Nat → Nat) (ad : Nat → Nat) (cI cC cS : ClassId) (yM : Nat → MethodName) (bM : Nat → ByteArray) (lM : Nat → Nat) (tM : Nat → Option FieldType) (i : Nat) (f : List zV → zHp → zRs) : Prop :=
  ∀ (as : List zV) (h : zHp) (r : Option Int32) (h' : zHp), f as h = some (r, h') →
    Met l (yM i) (zwsM yM bM lM tM i) (zrm i) (va_Pc (as.map (ztr ad)) (zWD dC dI ad cI cC cS h)) (zQ dC dI ad cI cC cS r h') 0 0 (zAD ad)
theorem zblind {dC : Nat → ClassId} {dI : Nat → Nat → Nat} {ad : Nat → Nat} {cI cC cS : ClassId} {h : zHp} {as : List Value} : FrameBlind (va_Pc as (zWD dC dI ad cI cC cS h)) := by
  intro a U g mk q
  obtain ⟨q0, qP, qK, qN⟩ := q
  exact ⟨q0, qP, va_K.moved (u := U) (U := U.calling g mk a) (Vm.Alike.refl U.vm) qK, fun n hn => va_Nw.same (u := U) rfl rfl (qN n hn)⟩
theorem zNE_warm {s U : State} (hW : s.WarmedH U.vm) (h : zNE s) : zNE U := fun n hn => va_Nw.warmM hW (h n hn)
theorem zgoodIn {c : Jvm.Cond} {ws : List Jvm.Cond} (h : ∀ w ∈ ws, w ∈ zbw) : GoodIn (c :: zbw) ws := fun w hw => ⟨List.mem_cons_of_mem _ (h w hw), zgood (h w hw)⟩
section ZS
variable {p : Program} {l : Launch} {e : Env} {R : Room} {s : State} {m : MethodId} {args : Array Value} {below : List Frame} {meth : Method} {c : Code} {cells slots : Nat} {Q : State → Prop}
variable {ad : Nat → Nat} {cI cC cS : ClassId} {dC : Nat → ClassId} {dI : Nat → Nat → Nat} {A : Nat → Prop} {H0 : Heap} {nL : Nat} {cc : ByteArray} {own : String}
/-- from here on the machine comes to its end -/
def zW (p : Program) (l : Launch) (e : Env) (R : Room) (s : State) (m : MethodId) (args : Array Value) (below : List Frame) (meth : Method) (c : Code) (cells slots : Nat) (Q : State → Prop) (ad : Nat → Nat) (cI cC cS : ClassId) (dC : Nat → ClassId) (dI : Nat → Nat → Nat) (A : Nat → Prop) (H0 : Heap) (nL : Nat) (pc : Nat) (ls : zLs) (st : List zV) (h : zHp) : Prop :=
  ∀ (H : Heap) (locs : List Loc) (lj : Array Slot), va_P (dC, dI) zCl (zWS ad cI cC cS h) H → va_S A H0 H locs → zLR ad lj nL ls → W p l e R s m args below meth c H locs cells slots Q (F0 m pc lj (st.map (ztr ad)))
/-- what a step leaves to be shown -/
def zG (orc : zOr) (i : Nat) (r0 : Option Int32 × zHp) (K : Nat → zLs → List zV → zHp → Prop) (h : zHp) : ((Bool × Option Int32) ⊕ ((Bool × Nat × List zV × Nat × zLs × List zV) ⊕ (Bool × Option zN × Option zN))) → Prop
  | .inl (b, v) => b = true ∧ r0 = (v, h)
  | .inr (.inl (b, j, as, pc, ls, rest)) => b = true ∧ ∃ q, orc j as h = some q ∧ K pc ls (zpush q.1 rest) q.2
  | .inr (.inr (b, n1, n2)) => (b = true → ∃ n, n1 = some n ∧ K n.1 n.2.1 n.2.2.1 n.2.2.2) ∧ (b = false → ∃ n, n2 = some n ∧ K n.1 n.2.1 n.2.2.1 n.2.2.2)
theorem zG_go {orc : zOr} {i : Nat} {r0 : Option Int32 × zHp} {K : Nat → zLs → List zV → zHp → Prop} {h : zHp} {n : zN} {d} (hd : zgo n = some d) (hg : zG orc i r0 K h d) : K n.1 n.2.1 n.2.2.1 n.2.2.2 := by
  cases hd
  obtain ⟨n', h1, h2⟩ := hg.1 rfl
  cases h1
  exact h2
theorem zG_if {orc : zOr} {i : Nat} {r0 : Option Int32 × zHp} {K : Nat → zLs → List zV → zHp → Prop} {h : zHp} {n : zN} {b : Bool} {d} (hd : zif b n = some d) (hg : zG orc i r0 K h d) : b = true ∧ K n.1 n.2.1 n.2.2.1 n.2.2.2 := by
  cases hd
  cases b with
  | true =>
    obtain ⟨n', h1, h2⟩ := hg.1 rfl
    cases h1
    exact ⟨rfl, h2⟩
  | false =>
    obtain ⟨n', h1, h2⟩ := hg.2 rfl
    cases h1
theorem zG_br {orc : zOr} {i : Nat} {r0 : Option Int32 × zHp} {K : Nat → zLs → List zV → zHp → Prop} {h : zHp} {n1 n2 : zN} {b : Bool} {d} (hd : zbr b n1 n2 = some d) (hg : zG orc i r0 K h d) : (b = true → K n1.1 n1.2.1 n1.2.2.1 n1.2.2.2) ∧ (b = false → K n2.1 n2.2.1 n2.2.2.1 n2.2.2.2) := by
  cases hd
  refine ⟨fun hb => ?_, fun hb => ?_⟩
  · obtain ⟨n', h1, h2⟩ := hg.1 hb
    cases h1
    exact h2
  · obtain ⟨n', h1, h2⟩ := hg.2 hb
    cases h1
    exact h2
theorem zib_in {i : Int32} {n : Nat} (h : zib i n = true) : vp_in i n := by
  simp only [zib, Bool.not_eq_true', Bool.or_eq_false_iff, decide_eq_false_iff_not] at h
  rintro (q | q)
  · exact h.1 q
  · have h1 := Nat.ble_eq_true_of_le q
    rw [h.2] at h1
    cases h1
end ZS
end
section
/-! One step of the small machine is one step (or one call) of the machine. -/
section ZT
variable {p : Program} {l : Launch} {e : Env} {R : Room} {s : State} {m : MethodId} {args : Array Value} {below : List Frame} {meth : Method} {c : Code} {cells slots : Nat} {Q : State → Prop}
variable {ad : Nat → Nat} {cI cC cS : ClassId} {dC : Nat → ClassId} {dI : Nat → Nat → Nat} {A : Nat → Prop} {H0 : Heap} {nL : Nat} {cc : ByteArray} {own : String}
variable {pc pc' : Nat} {ls : zLs} {st : List zV} {h : zHp} {d : (Bool × Option Int32) ⊕ ((Bool × Nat × List zV × Nat × zLs × List zV) ⊕ (Bool × Option zN × Option zN))} {orc : zOr} {i : Nat} {r0 : Option Int32 × zHp}
theorem zs_ldI {k : Nat} (hd : zldI ls k pc' st h = some d) (hg : zG orc i r0 (zW p l e R s m args below meth c cells slots Q ad cI cC cS dC dI A H0 nL) h d)
    (row : ∀ (H : Heap) (locs : List Loc) (lj : Array Slot) (x : Int32) (rest : List Value), lj[k]? = some (.val (.int x)) → W p l e R s m args below meth c H locs cells slots Q (F0 m pc' lj (.int x :: rest)) → W p l e R s m args below meth c H locs cells slots Q (F0 m pc lj rest)) :
    zW p l e R s m args below meth c cells slots Q ad cI cC cS dC dI A H0 nL pc ls st h := by
  unfold zldI at hd
  split at hd
  · rename_i x hx
    have hk := zG_go hd hg
    intro H locs lj hP hS hl
    exact row H locs lj x _ (zLR_get hl hx) (hk H locs lj hP hS hl)
  · cases hd
theorem zs_ldA {k : Nat} (hd : zldA ls k pc' st h = some d) (hg : zG orc i r0 (zW p l e R s m args below meth c cells slots Q ad cI cC cS dC dI A H0 nL) h d)
    (row : ∀ (H : Heap) (locs : List Loc) (lj : Array Slot) (x : Nat) (rest : List Value), lj[k]? = some (.val (.ref x)) → W p l e R s m args below meth c H locs cells slots Q (F0 m pc' lj (.ref x :: rest)) → W p l e R s m args below meth c H locs cells slots Q (F0 m pc lj rest)) :
    zW p l e R s m args below meth c cells slots Q ad cI cC cS dC dI A H0 nL pc ls st h := by
  unfold zldA at hd
  split at hd
  · rename_i x hx
    have hk := zG_go hd hg
    intro H locs lj hP hS hl
    exact row H locs lj (ad x) _ (zLR_get hl hx) (hk H locs lj hP hS hl)
  · cases hd
theorem zs_stI {k : Nat} (hd : zstI ls k pc' st h = some d) (hg : zG orc i r0 (zW p l e R s m args below meth c cells slots Q ad cI cC cS dC dI A H0 nL) h d)
    (row : ∀ (H : Heap) (locs : List Loc) (lj : Array Slot) (x : Int32) (rest : List Value) (lv : List (Nat × Value)), lv_has lj nL lv → k < nL → (∀ lj' : Array Slot, lv_has lj' nL ((k, .int x) :: lv.filter (fun q => !(q.1 == k) && !(q.1 + 1 == k && q.2.category == 2))) → W p l e R s m args below meth c H locs cells slots Q (F0 m pc' lj' rest)) → W p l e R s m args below meth c H locs cells slots Q (F0 m pc lj (.int x :: rest))) :
    zW p l e R s m args below meth c cells slots Q ad cI cC cS dC dI A H0 nL pc ls st h := by
  unfold zstI at hd
  split at hd
  · rename_i x r
    obtain ⟨hb, hk⟩ := zG_if hd hg
    have hlt : k < ls.length := Nat.blt_eq.mp hb
    intro H locs lj hP hS hl
    have hlt2 : k < nL := by rw [← hl.1]; exact hlt
    exact row H locs lj x _ _ hl.2 hlt2 (fun lj' hl' => hk H locs lj' hP hS (zLR_set (lj := lj) (v := .inl x) hl.1 hlt2 hl'))
  · cases hd
theorem zs_op {f : Int32 → Int32 → Int32} (hd : zop f pc' ls st h = some d) (hg : zG orc i r0 (zW p l e R s m args below meth c cells slots Q ad cI cC cS dC dI A H0 nL) h d)
    (row : ∀ (H : Heap) (locs : List Loc) (lj : Array Slot) (x y : Int32) (rest : List Value), W p l e R s m args below meth c H locs cells slots Q (F0 m pc' lj (.int (f x y) :: rest)) → W p l e R s m args below meth c H locs cells slots Q (F0 m pc lj (.int y :: .int x :: rest))) :
    zW p l e R s m args below meth c cells slots Q ad cI cC cS dC dI A H0 nL pc ls st h := by
  unfold zop at hd
  split at hd
  · have hk := zG_go hd hg
    intro H locs lj hP hS hl
    exact row H locs lj _ _ _ (hk H locs lj hP hS hl)
  · cases hd
theorem zs_dv {f : Int32 → Int32 → Int32} (hd : zdv znz f pc' ls st h = some d) (hg : zG orc i r0 (zW p l e R s m args below meth c cells slots Q ad cI cC cS dC dI A H0 nL) h d)
    (row : ∀ (H : Heap) (locs : List Loc) (lj : Array Slot) (x y : Int32) (rest : List Value), ¬ y = 0 → W p l e R s m args below meth c H locs cells slots Q (F0 m pc' lj (.int (f x y) :: rest)) → W p l e R s m args below meth c H locs cells slots Q (F0 m pc lj (.int y :: .int x :: rest))) :
    zW p l e R s m args below meth c cells slots Q ad cI cC cS dC dI A H0 nL pc ls st h := by
  unfold zdv at hd
  split at hd
  · obtain ⟨hb, hk⟩ := zG_if hd hg
    intro H locs lj hP hS hl
    exact row H locs lj _ _ _ (by simpa [znz, nI_0] using hb) (hk H locs lj hP hS hl)
  · cases hd
theorem zs_br {t pf : Nat} {st' : List zV} {b : Bool} {P : Prop} (hd : zbr b (t, ls, st', h) (pf, ls, st', h) = some d) (hg : zG orc i r0 (zW p l e R s m args below meth c cells slots Q ad cI cC cS dC dI A H0 nL) h d) (hb : b = true ↔ P)
    {pre : List zV} (row : ∀ (H : Heap) (locs : List Loc) (lj : Array Slot) (rest : List Value), (P → W p l e R s m args below meth c H locs cells slots Q (F0 m t lj rest)) → (¬ P → W p l e R s m args below meth c H locs cells slots Q (F0 m pf lj rest)) → W p l e R s m args below meth c H locs cells slots Q (F0 m pc lj (pre.map (ztr ad) ++ rest))) :
    zW p l e R s m args below meth c cells slots Q ad cI cC cS dC dI A H0 nL pc ls (pre ++ st') h := by
  obtain ⟨k1, k2⟩ := zG_br hd hg
  intro H locs lj hP hS hl
  rw [List.map_append]
  refine row H locs lj _ (fun q => k1 (hb.mpr q) H locs lj hP hS hl) (fun q => k2 ?_ H locs lj hP hS hl)
  cases hbb : b with
  | true => exact absurd (hb.mp hbb) q
  | false => rfl
theorem zs_icmp (hx : p.tables.exec = Jvm.exec) (hb : c.code = cc) {cd : ClassFile.Cond} {off : Int} {t : Nat} {x y : Int32} {r : List zV} (hdc : decode cc pc = .ok (.if_icmp cd off, 3)) (ht : (pc : Int) + off = (t : Int))
    (hd : zbr (zci cd x y) (t, ls, r, h) (pc + 3, ls, r, h) = some d) (hg : zG orc i r0 (zW p l e R s m args below meth c cells slots Q ad cI cC cS dC dI A H0 nL) h d) :
    zW p l e R s m args below meth c cells slots Q ad cI cC cS dC dI A H0 nL pc ls (.inl y :: .inl x :: r) h := by
  cases cd with
  | eq => exact zs_br (pre := [.inl y, .inl x]) hd hg (P := x = y) (by simp [zci]) (fun H locs lj rest k1 k2 => lv_icmp_eq hx hb hdc ht k1 k2)
  | ne => exact zs_br (pre := [.inl y, .inl x]) hd hg (P := ¬ x = y) (by simp [zci]) (fun H locs lj rest k1 k2 => lv_icmp_ne hx hb hdc ht k1 (fun q => k2 (fun q2 => q2 q)))
  | lt => exact zs_br (pre := [.inl y, .inl x]) hd hg (P := x < y) (by simp [zci]) (fun H locs lj rest k1 k2 => lv_icmp_lt hx hb hdc ht k1 k2)
  | ge => exact zs_br (pre := [.inl y, .inl x]) hd hg (P := y ≤ x) (by simp [zci]) (fun H locs lj rest k1 k2 => lv_icmp_ge hx hb hdc ht k1 k2)
  | gt => exact zs_br (pre := [.inl y, .inl x]) hd hg (P := y < x) (by simp [zci]) (fun H locs lj rest k1 k2 => lv_icmp_gt hx hb hdc ht k1 k2)
  | le => exact zs_br (pre := [.inl y, .inl x]) hd hg (P := x ≤ y) (by simp [zci]) (fun H locs lj rest k1 k2 => lv_icmp_le hx hb hdc ht k1 k2)
theorem zs_if (hx : p.tables.exec = Jvm.exec) (hb : c.code = cc) {cd : ClassFile.Cond} {off : Int} {t : Nat} {x : Int32} {r : List zV} (hdc : decode cc pc = .ok (.ifCond cd off, 3)) (ht : (pc : Int) + off = (t : Int))
    (hd : zbr (zci cd x (nI 0)) (t, ls, r, h) (pc + 3, ls, r, h) = some d) (hg : zG orc i r0 (zW p l e R s m args below meth c cells slots Q ad cI cC cS dC dI A H0 nL) h d) :
    zW p l e R s m args below meth c cells slots Q ad cI cC cS dC dI A H0 nL pc ls (.inl x :: r) h := by
  cases cd with
  | eq => exact zs_br (pre := [.inl x]) hd hg (P := x = 0) (by simp [zci, nI_0]) (fun H locs lj rest k1 k2 => lv_if_eq hx hb hdc ht k1 k2)
  | ne => exact zs_br (pre := [.inl x]) hd hg (P := ¬ x = 0) (by simp [zci, nI_0]) (fun H locs lj rest k1 k2 => lv_if_ne hx hb hdc ht k1 (fun q => k2 (fun q2 => q2 q)))
  | lt => exact zs_br (pre := [.inl x]) hd hg (P := x < 0) (by simp [zci, nI_0]) (fun H locs lj rest k1 k2 => lv_if_lt hx hb hdc ht k1 k2)
  | ge => exact zs_br (pre := [.inl x]) hd hg (P := 0 ≤ x) (by simp [zci, nI_0]) (fun H locs lj rest k1 k2 => lv_if_ge hx hb hdc ht k1 k2)
  | gt => exact zs_br (pre := [.inl x]) hd hg (P := 0 < x) (by simp [zci, nI_0]) (fun H locs lj rest k1 k2 => lv_if_gt hx hb hdc ht k1 k2)
  | le => exact zs_br (pre := [.inl x]) hd hg (P := x ≤ 0) (by simp [zci, nI_0]) (fun H locs lj rest k1 k2 => lv_if_le hx hb hdc ht k1 k2)
theorem zs_get (hx : p.tables.exec = Jvm.exec) (hb : c.code = cc) (hown : s.vm.findClass own = some m.cls) (hts : ∀ w ∈ zbw, w.before args s = true) (hK : va_K (dC, dI) zCl (zty cI cC cS) s) {x a b o : Nat} {r : List zV} (hdc : decode cc pc = .ok (.getfield x, 3))
    (ok : a < 7 ∧ b < zNF a ∧ Jvm.Cond.fieldLink own x (zTT a b).1 (zTT a b).2.1 (zTT a b).2.2.1 ∈ zbw)
    (hd : zif (Nat.beq (zSk o) a) (pc + 3, ls, (if Nat.beq (zFT a b) 2 then .inr (zHR o b) else .inl (h o b)) :: r, h) = some d) (hg : zG orc i r0 (zW p l e R s m args below meth c cells slots Q ad cI cC cS dC dI A H0 nL) h d) :
    zW p l e R s m args below meth c cells slots Q ad cI cC cS dC dI A H0 nL pc ls (.inr o :: r) h := by
  obtain ⟨h1, h2, h3⟩ := ok
  obtain ⟨hbb, hk⟩ := zG_if hd hg
  have hs := Nat.eq_of_beq_eq_true hbb
  have ho : o < 84 := zSk_lt hs (by omega)
  intro H locs lj hP hS hl
  exact va_get (D := (dC, dI)) (ci := a) (C := zRR a) (T := zTT a) (N := zNF a) hx hb hts (zlw h1) hown hK hP o ((zWS_at ho).trans (by rw [zent_obj hs h1])) (zCl_at h1) b h2 (hts _ h3) (fun _ h9 => h9) (zfs_at h2) hdc (hk H locs lj hP hS hl)
theorem zs_put (hx : p.tables.exec = Jvm.exec) (hb : c.code = cc) (hown : s.vm.findClass own = some m.cls) (hts : ∀ w ∈ zbw, w.before args s = true) (hK : va_K (dC, dI) zCl (zty cI cC cS) s) (hap : zap ad) (hA : ∀ k, k < 84 → A (ad k)) {x a b o : Nat} {v : Int32} {r : List zV} (hdc : decode cc pc = .ok (.putfield x, 3))
    (ok : a < 7 ∧ b < zNF a ∧ Jvm.Cond.fieldLink own x (zTT a b).1 (zTT a b).2.1 (zTT a b).2.2.1 ∈ zbw ∧ (zTT a b).2.2.2 = false)
    (hd : zif (Nat.beq (zSk o) a && (Nat.beq (zFT a b) 0 || zbo v)) (pc + 3, ls, r, zup h o b v) = some d) (hg : zG orc i r0 (zW p l e R s m args below meth c cells slots Q ad cI cC cS dC dI A H0 nL) h d) :
    zW p l e R s m args below meth c cells slots Q ad cI cC cS dC dI A H0 nL pc ls (.inl v :: .inr o :: r) h := by
  obtain ⟨h1, h2, h3, h4⟩ := ok
  obtain ⟨hbb, hk⟩ := zG_if hd hg
  rw [Bool.and_eq_true] at hbb
  have hs := Nat.eq_of_beq_eq_true hbb.1
  have ho : o < 84 := zSk_lt hs (by omega)
  have hft : Nat.beq (zFT a b) 2 = false ∧ narrow (zYY a b) (.int v) = .int v ∧ fits (zYY a b) (.int v) = true := by
    have hv := hbb.2
    have hfin : (zTT a b).2.2.2 = false := h4
    have key : ∀ a', a' < 7 → ∀ b', b' < zNF a' → (zTT a' b').2.2.2 = false → zYY a' b' = .int ∨ zYY a' b' = .boolean := by decide +kernel
    rcases key a h1 b h2 hfin with ht | ht
    · have e0 : zFT a b = 0 := by simp [zFT, ht]
      rw [e0, ht]
      exact ⟨rfl, rfl, rfl⟩
    · have e0 : zFT a b = 1 := by simp [zFT, ht]
      rw [e0] at hv ⊢
      have hv : v = nI 0 ∨ v = nI 1 := by
        simp only [zbo, Bool.or_eq_true, decide_eq_true_eq] at hv
        rcases hv with q | q
        · cases q
        · exact q
      rw [ht]
      rcases hv with rfl | rfl
      · exact ⟨rfl, by decide, by decide⟩
      · exact ⟨rfl, by decide, by decide⟩
  intro H locs lj hP hS hl
  refine va_put (D := (dC, dI)) (ci := a) (C := zRR a) (T := zTT a) (N := zNF a) (v := .int v) hx hb hts (zlw h1) (zYY a) (zYY_ok h1) (zNN h1) hown hK hP (zWS_D hap hA h) hS o ((zWS_at ho).trans (by rw [zent_obj hs h1])) (zCl_at h1) b h2 (hts _ h3) (fun _ h9 => h9) h4 (zYY_ok h1 b h2) hft.2.1 hft.2.2 (by rw [zfs_len]; exact h2) hdc (fun H1 locs1 hP1 hD1 hS1 => ?_)
  rw [zfs_set h2 hft.1] at hP1
  rw [zWS_set (h' := zup h o b v) (zent_obj hs h1) (fun i hi => zup_ne hi)] at hP1
  exact hk H1 locs1 lj hP1 hS1 hl
end ZT
end
section
/-! Rows and calls. -/
section ZU
variable {p : Program} {l : Launch} {e : Env} {R : Room} {s : State} {m : MethodId} {args : Array Value} {below : List Frame} {meth : Method} {c : Code} {cells slots : Nat} {Q : State → Prop}
variable {ad : Nat → Nat} {cI cC cS : ClassId} {dC : Nat → ClassId} {dI : Nat → Nat → Nat} {A : Nat → Prop} {H0 : Heap} {nL : Nat} {cc : ByteArray} {own : String}
variable {pc pc' : Nat} {ls : zLs} {st : List zV} {h : zHp} {d : (Bool × Option Int32) ⊕ ((Bool × Nat × List zV × Nat × zLs × List zV) ⊕ (Bool × Option zN × Option zN))} {orc : zOr} {i : Nat} {r0 : Option Int32 × zHp}
theorem zs_iald (hx : p.tables.exec = Jvm.exec) (hb : c.code = cc) (hK : va_K (dC, dI) zCl (zty cI cC cS) s) {o : Nat} {x : Int32} {r : List zV} (hdc : decode cc pc = .ok (.iaload, 1))
    (hd : zif (Nat.beq (zSk o) 8 && zib x (zSn o)) (pc + 1, ls, .inl (h o x.toNatClampNeg) :: r, h) = some d) (hg : zG orc i r0 (zW p l e R s m args below meth c cells slots Q ad cI cC cS dC dI A H0 nL) h d) :
    zW p l e R s m args below meth c cells slots Q ad cI cC cS dC dI A H0 nL pc ls (.inl x :: .inr o :: r) h := by
  obtain ⟨hbb, hk⟩ := zG_if hd hg
  rw [Bool.and_eq_true] at hbb
  have hs := Nat.eq_of_beq_eq_true hbb.1
  have ho : o < 84 := zSk_lt hs (by omega)
  intro H locs lj hP hS hl
  exact va_iald (D := (dC, dI)) hx hb hK hP o 0 ((zWS_at ho).trans (by rw [zent_int hs])) rfl (zib_in hbb.2) hdc (hk H locs lj hP hS hl)
theorem zs_cald (hx : p.tables.exec = Jvm.exec) (hb : c.code = cc) (hK : va_K (dC, dI) zCl (zty cI cC cS) s) {o : Nat} {x : Int32} {r : List zV} (hdc : decode cc pc = .ok (.caload, 1))
    (hd : zif (Nat.beq (zSk o) 7 && zib x (zSn o)) (pc + 1, ls, .inl (h o x.toNatClampNeg) :: r, h) = some d) (hg : zG orc i r0 (zW p l e R s m args below meth c cells slots Q ad cI cC cS dC dI A H0 nL) h d) :
    zW p l e R s m args below meth c cells slots Q ad cI cC cS dC dI A H0 nL pc ls (.inl x :: .inr o :: r) h := by
  obtain ⟨hbb, hk⟩ := zG_if hd hg
  rw [Bool.and_eq_true] at hbb
  have hs := Nat.eq_of_beq_eq_true hbb.1
  have ho : o < 84 := zSk_lt hs (by omega)
  intro H locs lj hP hS hl
  exact va_cald (D := (dC, dI)) hx hb hK hP o 1 ((zWS_at ho).trans (by rw [zent_char hs])) rfl (zib_in hbb.2) hdc (hk H locs lj hP hS hl)
theorem zs_aald (hx : p.tables.exec = Jvm.exec) (hb : c.code = cc) (hK : va_K (dC, dI) zCl (zty cI cC cS) s) {o : Nat} {x : Int32} {r : List zV} (hdc : decode cc pc = .ok (.aaload, 1))
    (hd : zif (Nat.beq (zSk o) 9 && zib x (zSn o)) (pc + 1, ls, .inr (zHR o x.toNatClampNeg) :: r, h) = some d) (hg : zG orc i r0 (zW p l e R s m args below meth c cells slots Q ad cI cC cS dC dI A H0 nL) h d) :
    zW p l e R s m args below meth c cells slots Q ad cI cC cS dC dI A H0 nL pc ls (.inl x :: .inr o :: r) h := by
  obtain ⟨hbb, hk⟩ := zG_if hd hg
  rw [Bool.and_eq_true] at hbb
  have hs := Nat.eq_of_beq_eq_true hbb.1
  have ho : o < 84 := zSk_lt hs (by omega)
  intro H locs lj hP hS hl
  exact va_aldq (D := (dC, dI)) (tys := zty cI cC cS) (cA := cS) (C := "BorderPaints$State") (f := fun j => some (ad (zHR o j))) hx hb hK hP o 2 ((zWS_at ho).trans (by rw [zent_sts hs])) rfl (zib_in hbb.2) hdc (hk H locs lj hP hS hl)
theorem zs_iast (hx : p.tables.exec = Jvm.exec) (hb : c.code = cc) (hK : va_K (dC, dI) zCl (zty cI cC cS) s) (hap : zap ad) (hA : ∀ k, k < 84 → A (ad k)) {o : Nat} {x v : Int32} {r : List zV} (hdc : decode cc pc = .ok (.iastore, 1))
    (hd : zif (Nat.beq (zSk o) 8 && zib x (zSn o)) (pc + 1, ls, r, zup h o x.toNatClampNeg v) = some d) (hg : zG orc i r0 (zW p l e R s m args below meth c cells slots Q ad cI cC cS dC dI A H0 nL) h d) :
    zW p l e R s m args below meth c cells slots Q ad cI cC cS dC dI A H0 nL pc ls (.inl v :: .inl x :: .inr o :: r) h := by
  obtain ⟨hbb, hk⟩ := zG_if hd hg
  rw [Bool.and_eq_true] at hbb
  have hs := Nat.eq_of_beq_eq_true hbb.1
  have ho : o < 84 := zSk_lt hs (by omega)
  intro H locs lj hP hS hl
  refine va_iast (D := (dC, dI)) hx hb hK hP (zWS_D hap hA h) hS o 0 ((zWS_at ho).trans (by rw [zent_int hs])) rfl (zib_in hbb.2) hdc (fun H1 locs1 hP1 _ hS1 => ?_)
  rw [zWS_set (h' := zup h o x.toNatClampNeg v) (by rw [zent_int hs, zup_row]) (fun i hi => zup_ne hi)] at hP1
  exact hk H1 locs1 lj hP1 hS1 hl
theorem zs_cast (hx : p.tables.exec = Jvm.exec) (hb : c.code = cc) (hK : va_K (dC, dI) zCl (zty cI cC cS) s) (hap : zap ad) (hA : ∀ k, k < 84 → A (ad k)) {o : Nat} {x v : Int32} {r : List zV} (hdc : decode cc pc = .ok (.castore, 1))
    (hd : zif (Nat.beq (zSk o) 7 && zib x (zSn o)) (pc + 1, ls, r, zup h o x.toNatClampNeg (vp_nar .char v)) = some d) (hg : zG orc i r0 (zW p l e R s m args below meth c cells slots Q ad cI cC cS dC dI A H0 nL) h d) :
    zW p l e R s m args below meth c cells slots Q ad cI cC cS dC dI A H0 nL pc ls (.inl v :: .inl x :: .inr o :: r) h := by
  obtain ⟨hbb, hk⟩ := zG_if hd hg
  rw [Bool.and_eq_true] at hbb
  have hs := Nat.eq_of_beq_eq_true hbb.1
  have ho : o < 84 := zSk_lt hs (by omega)
  intro H locs lj hP hS hl
  refine va_cast (D := (dC, dI)) hx hb hK hP (zWS_D hap hA h) hS o 1 ((zWS_at ho).trans (by rw [zent_char hs])) rfl (zib_in hbb.2) hdc (fun H1 locs1 hP1 _ hS1 => ?_)
  rw [zWS_set (h' := zup h o x.toNatClampNeg (vp_nar .char v)) (by rw [zent_char hs, zup_row]) (fun i hi => zup_ne hi)] at hP1
  exact hk H1 locs1 lj hP1 hS1 hl
theorem zcp_ne {s d sp dp n : Nat} {b : Nat} (hb : b ≠ d) : zcp h s d sp dp n b = h b := by
  funext j
  simp [zcp, hb]
theorem zcp_row {s d sp dp n : Nat} : zcp h s d sp dp n d = va_cpy (h s) (h d) sp dp n := by
  funext j
  simp [zcp]
theorem zs_copy (hx : p.tables.exec = Jvm.exec) (hb : c.code = cc) (hml : c.maxLocals = nL) (hown : s.vm.findClass own = some m.cls) (hts : ∀ w ∈ zbw, w.before args s = true) (hK : va_K (dC, dI) zCl (zty cI cC cS) s) (hap : zap ad) (hA : ∀ k, k < 84 → A (ad k)) (hR : 1 ≤ R.frames ∧ 60 ≤ R.locals) {x sr ds : Nat} {sp dp n : Int32} {r : List zV} (hdc : decode cc pc = .ok (.invokestatic x, 3))
    (ok : Jvm.Cond.methodLink own x arraycopyName ∈ zbw ∧ Jvm.Cond.native arraycopyName ∈ zbw ∧ Jvm.Cond.static arraycopyName ∈ zbw ∧ Jvm.Cond.initialized "java/lang/System" ∈ zbw)
    (hd : zif (Nat.beq (zSk sr) 8 && Nat.beq (zSk ds) 8 && (!decide (sp < 0) && !decide (dp < 0) && !decide (n < 0)) && Nat.ble (sp.toNatClampNeg + n.toNatClampNeg) (zSn sr) && Nat.ble (dp.toNatClampNeg + n.toNatClampNeg) (zSn ds) && Nat.ble r.length 8) (pc + 3, ls, r, zcp h sr ds sp.toNatClampNeg dp.toNatClampNeg n.toNatClampNeg) = some d) (hg : zG orc i r0 (zW p l e R s m args below meth c cells slots Q ad cI cC cS dC dI A H0 nL) h d) :
    zW p l e R s m args below meth c cells slots Q ad cI cC cS dC dI A H0 nL pc ls (.inl n :: .inl dp :: .inr ds :: .inl sp :: .inr sr :: r) h := by
  obtain ⟨k1, k2, k3, k4⟩ := ok
  obtain ⟨hbb, hk⟩ := zG_if hd hg
  simp only [Bool.and_eq_true, Bool.not_eq_true', decide_eq_false_iff_not] at hbb
  obtain ⟨⟨⟨⟨⟨g1, g2⟩, ⟨g3, g4⟩, g5⟩, g6⟩, g7⟩, g8⟩ := hbb
  have hs1 := Nat.eq_of_beq_eq_true g1
  have hs2 := Nat.eq_of_beq_eq_true g2
  have ho1 : sr < 84 := zSk_lt hs1 (by omega)
  have ho2 : ds < 84 := zSk_lt hs2 (by omega)
  have h8 := Nat.le_of_ble_eq_true g8
  intro H locs lj hP hS hl
  refine va_copyi (D := (dC, dI)) hx hb (by rw [hml]; exact hl.2.1.symm) hown (hts _ k1) (hts _ k2) (hts _ k3) (hts _ k4) hK hP (zWS_D hap hA h) hS sr ds 0 0 ((zWS_at ho1).trans (by rw [zent_int hs1])) ((zWS_at ho2).trans (by rw [zent_int hs2])) rfl rfl rfl g3 g4 g5 (Nat.le_of_ble_eq_true g6) (Nat.le_of_ble_eq_true g7) (fun _ _ => rfl) hR.1 ?_ hdc (fun H1 locs1 hP1 _ hS1 => ?_)
  · rw [zcat_sum]
    have h9 : nativeFrameWords "java/lang/System" "arraycopy" 5 ≤ 7 := by decide +kernel
    omega
  · rw [zWS_set (h' := zcp h sr ds sp.toNatClampNeg dp.toNatClampNeg n.toNatClampNeg) (by rw [zent_int hs2, zcp_row]) (fun i hi => zcp_ne hi)] at hP1
    exact hk H1 locs1 lj hP1 hS1 hl
/-- behind a call -/
theorem zs_ret {y : MethodName} {r1 : Option Int32 × zHp} {rest : List zV} {stj : List Value} {args1 : Array Value} (hA2 : ∀ q, zAD ad q → A q)
    (hrun : ∀ (H : Heap) (locs : List Loc) (lj : Array Slot), va_P (dC, dI) zCl (zWS ad cI cC cS h) H → zLR ad lj nL ls → va_Run p l e R s m args below meth c H locs cells slots 0 0 (F0 m pc lj stj) (rest.map (ztr ad)) (zQ dC dI ad cI cC cS r1.1 r1.2 args1) (zAD ad))
    (hk : zW p l e R s m args below meth c cells slots Q ad cI cC cS dC dI A H0 nL (pc + 3) ls (zpush r1.1 rest) r1.2) :
    ∀ (H : Heap) (locs : List Loc) (lj : Array Slot), va_P (dC, dI) zCl (zWS ad cI cC cS h) H → va_S A H0 H locs → zLR ad lj nL ls → W p l e R s m args below meth c H locs cells slots Q (F0 m pc lj stj) := by
  intro H locs lj hP hS hl
  obtain ⟨v, h1⟩ := r1
  have hr := hrun H locs lj hP hl
  cases v with
  | none =>
    refine va_callv (a := args1) (A0 := A) (A1 := zAD ad) hr hS (fun q _ h => hA2 q h) hA2 (fun u t H1 locs1 ht hvm hw hB hz1 hk1 hS1 => ?_)
    obtain ⟨hP1, -, -⟩ := hB
    rw [ht] at hP1
    exact hk H1 locs1 lj hP1 hS1 hl
  | some z =>
    refine va_calli (a := args1) (A0 := A) (A1 := zAD ad) hr hS (fun q _ h => hA2 q h) hA2 (fun r u t H1 locs1 ht hvm hw hB hz1 hk1 hS1 => ?_)
    obtain ⟨hP1, -, -⟩ := hB
    rw [ht] at hP1
    subst hw
    exact hk H1 locs1 lj hP1 hS1 hl
end ZU
end
section
/-! Calls, every step, the whole run, and a method's contract out of its run. -/
section ZX
variable {p : Program} {l : Launch} {e : Env} {R : Room} {s : State} {m : MethodId} {args : Array Value} {below : List Frame} {meth : Method} {c : Code} {cells slots : Nat} {Q : State → Prop}
variable {ad : Nat → Nat} {cI cC cS : ClassId} {dC : Nat → ClassId} {dI : Nat → Nat → Nat} {A : Nat → Prop} {H0 : Heap} {nL : Nat} {cc : ByteArray} {own : String}
variable {yM : Nat → MethodName} {bM : Nat → ByteArray} {lM : Nat → Nat} {tM : Nat → Option FieldType} {mci : Nat → Nat}
variable {pc pc' : Nat} {ls : zLs} {st : List zV} {h : zHp} {d : (Bool × Option Int32) ⊕ ((Bool × Nat × List zV × Nat × zLs × List zV) ⊕ (Bool × Option zN × Option zN))} {orc : zOr} {i : Nat} {r0 : Option Int32 × zHp}
theorem zroom {a ml : Nat} (hai : a < i) (hml : ml ≤ 40) (hR : i + 1 ≤ R.frames ∧ 60 * (i + 1) ≤ R.locals) : (zrm a).frames + 1 ≤ R.frames ∧ 8 + (ml + 11) + (zrm a).locals ≤ R.locals := by
  simp only [zrm]
  omega
theorem zs_callV (hx : p.tables.exec = Jvm.exec) (hb : c.code = cc) (hml : c.maxLocals = nL) (hown : s.vm.findClass own = some m.cls) (hts : ∀ w ∈ zbw, w.before args s = true) (hK : va_K (dC, dI) zCl (zty cI cC cS) s) (hNE : zNE s) (hA2 : ∀ q, zAD ad q → A q) (hR : i + 1 ≤ R.frames ∧ 60 * (i + 1) ≤ R.locals) (hRc : cells ≤ R.cells ∧ slots ≤ R.slots)
    (hcall : ∀ j, j < i → zCT l dC dI ad cI cC cS yM bM lM tM j (orc j)) {x a b : Nat} (hdc : decode cc pc = .ok (.invokevirtual x, 3))
    (ok : a < i ∧ mci a < 7 ∧ (yM a).cls = zRR (mci a) ∧ zcl (yM a) (bM a) (lM a) (tM a) b ∧ Jvm.Cond.methodLink own x (yM a) ∈ zbw ∧ Jvm.Cond.instanceMethod (yM a) ∈ zbw ∧ Jvm.Cond.selects (yM a).cls (yM a) (yM a) ∈ zbw)
    (hd : zcv (st.take b) a b (pc + 3) mci ls (st.drop b) = some d) (hg : zG orc i r0 (zW p l e R s m args below meth c cells slots Q ad cI cC cS dC dI A H0 nL) h d) :
    zW p l e R s m args below meth c cells slots Q ad cI cC cS dC dI A H0 nL pc ls st h := by
  obtain ⟨k1, k2, k3, ⟨k4, k5, k6, k7⟩, k8, k9, k10⟩ := ok
  have hst := List.take_append_drop b st
  unfold zcv at hd
  split at hd
  · rename_i o rest heq
    cases hd
    obtain ⟨hbb, ⟨v, h1⟩, ho, hk⟩ := hg
    simp only [Bool.and_eq_true] at hbb
    have g1 := Nat.eq_of_beq_eq_true hbb.1.1
    have g2 := Nat.eq_of_beq_eq_true hbb.1.2
    have g3 := Nat.le_of_ble_eq_true hbb.2
    have ho84 : o < 84 := zSk_lt g1 (by omega)
    rw [heq] at hst
    have hG : GoodIn zbw (wsV own x (yM a).cls (yM a) (zwsM yM bM lM tM a)) := fun w hw => by
      have h2 : w ∈ zbw := by
        simp only [wsV, zwsM, List.cons_append, List.nil_append, List.mem_cons] at hw
        rcases hw with rfl | rfl | rfl | rfl | rfl | hw
        · exact k8
        · exact k9
        · exact k10
        · exact k4
        · exact k5
        · exact hw
      exact ⟨h2, zgood h2⟩
    refine zs_ret (y := yM a) (r1 := (v, h1)) (rest := rest) (args1 := (Value.ref (ad o) :: ((st.take b).reverse.map (ztr ad))).toArray) hA2 (fun H locs lj hP hl => ?_) hk
    refine va_runV (C := (yM a).cls) ⟨hx, hb, hml, hown, hts⟩ (hcall a k1 _ _ _ _ ho) (cwV b hts hG rfl rfl rfl ⟨rfl, k6⟩ (zroom k1 k7 hR)) ⟨zblind, ?_, fun U hU hW => ⟨rfl, by rw [hU]; exact hP, va_K.moved hW.alike hK, zNE_warm hW hNE⟩⟩ rfl (by simp only [List.length_map, List.length_reverse]; exact g2) hl.2.1 ?_ (lv_room (by rw [zcat_sum]; exact g3)) hdc hRc
    · rw [k3]
      exact va_recv hK hP (zCl_at k2) ((zWS_at ho84).trans (by rw [zent_obj g1 k2]))
    · have h5 := congrArg (List.map (ztr ad)) hst
      rw [List.map_append] at h5
      show st.map (ztr ad) = _
      rw [← h5, ← List.map_reverse, List.reverse_reverse]
      rfl
  · cases hd
theorem zs_callS (hx : p.tables.exec = Jvm.exec) (hb : c.code = cc) (hml : c.maxLocals = nL) (hown : s.vm.findClass own = some m.cls) (hts : ∀ w ∈ zbw, w.before args s = true) (hK : va_K (dC, dI) zCl (zty cI cC cS) s) (hNE : zNE s) (hA2 : ∀ q, zAD ad q → A q) (hR : i + 1 ≤ R.frames ∧ 60 * (i + 1) ≤ R.locals) (hRc : cells ≤ R.cells ∧ slots ≤ R.slots)
    (hcall : ∀ j, j < i → zCT l dC dI ad cI cC cS yM bM lM tM j (orc j)) {x a b : Nat} (hdc : decode cc pc = .ok (.invokestatic x, 3))
    (k1 : a < i) (hcl : zcl (yM a) (bM a) (lM a) (tM a) b) (k8 : Jvm.Cond.static (yM a) ∈ zbw) (k9 : Jvm.Cond.methodLink own x (yM a) ∈ zbw ∨ ∃ h, (own, x, yM a, h) ∈ zNL)
    (hd : some (.inr (.inl (Nat.beq (st.take b).length b && Nat.ble (st.drop b).length 8, a, (st.take b).reverse, pc + 3, ls, st.drop b))) = some d) (hg : zG orc i r0 (zW p l e R s m args below meth c cells slots Q ad cI cC cS dC dI A H0 nL) h d) :
    zW p l e R s m args below meth c cells slots Q ad cI cC cS dC dI A H0 nL pc ls st h := by
  obtain ⟨k4, k5, k6, k7⟩ := hcl
  have hst := List.take_append_drop b st
  cases hd
  obtain ⟨hbb, ⟨v, h1⟩, ho, hk⟩ := hg
  simp only [Bool.and_eq_true] at hbb
  have g2 := Nat.eq_of_beq_eq_true hbb.1
  have g3 := Nat.le_of_ble_eq_true hbb.2
  have hGm : GoodIn zbw (zwsM yM bM lM tM a) := fun w hw => by
    have h2 : w ∈ zbw := by
      rcases List.mem_cons.mp hw with rfl | hw
      · exact k5
      · exact hw
    exact ⟨h2, zgood h2⟩
  refine zs_ret (y := yM a) (r1 := (v, h1)) (rest := st.drop b) (args1 := ((st.take b).reverse.map (ztr ad)).toArray) hA2 (fun H locs lj hP hl => ?_) hk
  have hstk : st.map (ztr ad) = ((st.take b).reverse.map (ztr ad)).reverse ++ (st.drop b).map (ztr ad) := by
    rw [← List.map_reverse, List.reverse_reverse, ← List.map_append, hst]
  rcases k9 with k9 | ⟨hs, k9⟩
  · have hG : GoodIn zbw (va_wsS own x (yM a) (zwsM yM bM lM tM a)) := fun w hw => by
      simp only [va_wsS, List.cons_append, List.nil_append, List.mem_cons] at hw
      rcases hw with rfl | rfl | rfl | hw
      · exact ⟨k9, zgood k9⟩
      · exact ⟨k8, zgood k8⟩
      · exact ⟨k4, zgood k4⟩
      · exact hGm w hw
    exact va_runS ⟨hx, hb, hml, hown, hts⟩ (hcall a k1 _ _ _ _ ho) (va_cwS b hts hG rfl rfl rfl k6 (zroom k1 k7 hR)) ⟨zblind, fun U hU hW => ⟨rfl, by rw [hU]; exact hP, va_K.moved hW.alike hK, zNE_warm hW hNE⟩⟩ rfl (by simp only [List.length_map, List.length_reverse]; exact g2) hl.2.1 hstk (lv_room (by rw [zcat_sum]; exact g3)) hdc hRc
  · exact va_runSN ⟨hx, hb, hml, hown, hts⟩ (hcall a k1 _ _ _ _ ho) ⟨va_cnB b hts hGm rfl rfl rfl (hNE _ k9) (hts _ k4) k6 (zroom k1 k7 hR), hts _ k8, trivial⟩ ⟨zblind, fun U hU hW => ⟨rfl, by rw [hU]; exact hP, va_K.moved hW.alike hK, zNE_warm hW hNE⟩⟩ rfl (by simp only [List.length_map, List.length_reverse]; exact g2) hl.2.1 hstk (lv_room (by rw [zcat_sum]; exact g3)) hdc hRc
end ZX
end
section
/-! Every step, the whole run, a method's contract. -/
section ZY
variable {p : Program} {l : Launch} {e : Env} {R : Room} {s : State} {m : MethodId} {args : Array Value} {below : List Frame} {meth : Method} {c : Code} {cells slots : Nat} {Q : State → Prop}
variable {ad : Nat → Nat} {cI cC cS : ClassId} {dC : Nat → ClassId} {dI : Nat → Nat → Nat} {A : Nat → Prop} {H0 : Heap} {nL : Nat} {cc : ByteArray} {own : String}
variable {yM : Nat → MethodName} {bM : Nat → ByteArray} {lM : Nat → Nat} {tM : Nat → Option FieldType} {mci : Nat → Nat}
variable {ls : zLs} {st : List zV} {h : zHp} {d : (Bool × Option Int32) ⊕ ((Bool × Nat × List zV × Nat × zLs × List zV) ⊕ (Bool × Option zN × Option zN))} {orc : zOr} {i : Nat} {r0 : Option Int32 × zHp}
/-- what holds in a frame of ours -/
def zFr (p : Program) (R : Room) (s : State) (m : MethodId) (args : Array Value) (c : Code) (cells slots : Nat) (ad : Nat → Nat) (cI cC cS : ClassId) (dC : Nat → ClassId) (dI : Nat → Nat → Nat) (A : Nat → Prop) (nL : Nat) (cc : ByteArray) (own : String) (i : Nat) : Prop :=
  p.tables.exec = Jvm.exec ∧ c.code = cc ∧ c.maxLocals = nL ∧ s.vm.findClass own = some m.cls ∧ (∀ w ∈ zbw, w.before args s = true) ∧ va_K (dC, dI) zCl (zty cI cC cS) s ∧ zNE s ∧ zap ad ∧ (∀ q, zAD ad q → A q) ∧ (i + 1 ≤ R.frames ∧ 60 * (i + 1) ≤ R.locals) ∧ (cells ≤ R.cells ∧ slots ≤ R.slots)
set_option maxHeartbeats 4000000 in
theorem zstep {sf rb : Bool} {scr : zSc} {q : zE} (F : zFr p R s m args c cells slots ad cI cC cS dC dI A nL cc own i)
    (hcall : ∀ j, j < i → zCT l dC dI ad cI cC cS yM bM lM tM j (orc j))
    (hsc : sf = true → va_X (ad 84) scr.1 scr.2 s H0 ∧ ad 84 < H0.size ∧ ¬ A (ad 84))
    (hretI : ∀ (pc : Nat) (x : Int32) (H : Heap) (locs : List Loc) (lj : Array Slot) (h : zHp), r0 = (some x, h) → (tM i).isSome = true → (rb = true → x = 0 ∨ x = 1) → decode cc pc = .ok (.ireturn, 1) → va_P (dC, dI) zCl (zWS ad cI cC cS h) H → va_S A H0 H locs → W p l e R s m args below meth c H locs cells slots Q (F0 m pc lj [.int x]))
    (hretV : ∀ (pc : Nat) (H : Heap) (locs : List Loc) (lj : Array Slot) (h : zHp), r0 = (none, h) → tM i = none → decode cc pc = .ok (.return_, 1) → va_P (dC, dI) zCl (zWS ad cI cC cS h) H → va_S A H0 H locs → W p l e R s m args below meth c H locs cells slots Q (F0 m pc lj []))
    (ok : zOK yM bM lM tM mci i own sf q) (hdc : decode cc q.1 = .ok (q.2.1, zlen q.2.2.1 q.2.1)) (hd : zstp zib zci zbo znz mci rb scr q ls st h = some d) (hg : zG orc i r0 (zW p l e R s m args below meth c cells slots Q ad cI cC cS dC dI A H0 nL) h d) :
    zW p l e R s m args below meth c cells slots Q ad cI cC cS dC dI A H0 nL q.1 ls st h := by
  obtain ⟨hx, hb, hml, hown, hts, hK, hNE, hap, hA2, hR, hRc⟩ := F
  have hA : ∀ k, k < 84 → A (ad k) := fun k hk => hA2 _ ⟨k, hk, rfl⟩
  obtain ⟨pc, ins, len, v, t, a, b⟩ := q
  cases ins
  case iload_n k => exact zs_ldI hd hg (fun H locs lj x rest hl kk => lv_iload_n hx hb hdc rfl hl kk)
  case iload k => exact zs_ldI hd hg (fun H locs lj x rest hl kk => lv_iload hx hb hdc hl kk)
  case aload_n k => exact zs_ldA hd hg (fun H locs lj x rest hl kk => lv_aload_n hx hb hdc rfl hl kk)
  case istore_n k => exact zs_stI hd hg (fun H locs lj x rest lv hl hn kk => lv_istore_n hx hb hdc rfl hl hn rfl kk)
  case istore k => exact zs_stI hd hg (fun H locs lj x rest lv hl hn kk => lv_istore hx hb hdc hl hn rfl kk)
  case iconst n =>
    have hk := zG_go hd hg
    exact fun H locs lj hP hS hl => lv_iconst hx hb hdc ok (hk H locs lj hP hS hl)
  case bipush n =>
    have hk := zG_go hd hg
    exact fun H locs lj hP hS hl => lv_bipush hx hb hdc ok (hk H locs lj hP hS hl)
  case sipush n =>
    have hk := zG_go hd hg
    exact fun H locs lj hP hS hl => lv_sipush hx hb hdc ok (hk H locs lj hP hS hl)
  case ldc_w n =>
    have hk := zG_go hd hg
    exact fun H locs lj hP hS hl => lv_ldcw hx hb hown (hts _ ok) hdc (hk H locs lj hP hS hl)
  case iadd => exact zs_op hd hg (fun H locs lj x y rest kk => lv_iadd hx hb hdc kk)
  case isub => exact zs_op hd hg (fun H locs lj x y rest kk => lv_isub hx hb hdc kk)
  case imul => exact zs_op hd hg (fun H locs lj x y rest kk => lv_imul hx hb hdc kk)
  case iand => exact zs_op hd hg (fun H locs lj x y rest kk => lv_iand hx hb hdc kk)
  case ior => exact zs_op hd hg (fun H locs lj x y rest kk => lv_ior hx hb hdc kk)
  case ixor => exact zs_op hd hg (fun H locs lj x y rest kk => lv_ixor hx hb hdc kk)
  case ishl => exact zs_op hd hg (fun H locs lj x y rest kk => lv_ishl hx hb hdc kk)
  case ishr => exact zs_op hd hg (fun H locs lj x y rest kk => lv_ishr hx hb hdc kk)
  case iushr => exact zs_op hd hg (fun H locs lj x y rest kk => lv_iushr hx hb hdc rfl kk)
  case idiv => exact zs_dv hd hg (fun H locs lj x y rest hy kk => lv_idiv hx hb hdc hy kk)
  case irem => exact zs_dv hd hg (fun H locs lj x y rest hy kk => lv_irem hx hb hdc hy kk)
  case iinc k n =>
    replace hd : zinc ls k (pc + 3) v st h = some d := hd
    unfold zinc at hd
    split at hd
    · rename_i x hxx
      obtain ⟨hbb, hk⟩ := zG_if hd hg
      have hlt : k < ls.length := Nat.blt_eq.mp hbb
      intro H locs lj hP hS hl
      have hlt2 : k < nL := by rw [← hl.1]; exact hlt
      have hmem := zll_mem (ad := ad) ls 0 k hxx
      rw [Nat.zero_add] at hmem
      obtain ⟨n0, hn0⟩ := List.getElem?_of_mem hmem
      refine lv_iinc hx hb hdc hl.2 hn0 (v := x + v) (by rw [show Int32.ofInt n = v from ok]) hlt2 rfl (fun lj' hl' => ?_)
      exact hk H locs lj' hP hS (zLR_set (lj := lj) (v := .inl (x + v)) hl.1 hlt2 hl')
    · cases hd
  case i2c =>
    match st, hd with
    | .inl x :: r, hd =>
      have hk := zG_go hd hg
      exact fun H locs lj hP hS hl => lv_i2c hx hb hdc rfl (hk H locs lj hP hS hl)
    | [], hd => cases hd
    | .inr _ :: _, hd => cases hd
  case if_icmp cd off =>
    match st, hd with
    | .inl y :: .inl x :: r, hd => exact zs_icmp hx hb hdc ok hd hg
    | [], hd => cases hd
    | [_], hd => first | cases hd | (rename_i w; cases w <;> cases hd)
    | .inr _ :: _ :: _, hd => cases hd
    | .inl _ :: .inr _ :: _, hd => cases hd
  case ifCond cd off =>
    match st, hd with
    | .inl x :: r, hd => exact zs_if hx hb hdc ok hd hg
    | [], hd => cases hd
    | .inr _ :: _, hd => cases hd
  case goto off =>
    have hk := zG_go hd hg
    exact fun H locs lj hP hS hl => lv_goto hx hb hdc ok (hk H locs lj hP hS hl)
  case tableswitch df lo hi offs =>
    match st, hd with
    | .inl x :: r, hd =>
      cases hd
      obtain ⟨g1, g2⟩ := hg
      intro H locs lj hP hS hl
      by_cases hc : x.toInt < lo ∨ hi < x.toInt
      · obtain ⟨n, e1, e2⟩ := g1 (by rcases hc with q | q <;> simp [q])
        cases e1
        exact lv_tableOut hx hb hdc hc ok (e2 H locs lj hP hS hl)
      · have hc1 : ¬ x.toInt < lo := fun q => hc (Or.inl q)
        have hc2 : ¬ hi < x.toInt := fun q => hc (Or.inr q)
        obtain ⟨n, e1, e2⟩ := g2 (by simp [hc1, hc2])
        split at e1
        · rename_i off ho
          split at e1
          · rename_i hpos
            cases e1
            exact lv_tableIn hx hb hdc hc1 hc2 ho (by omega) (e2 H locs lj hP hS hl)
          · cases e1
        · cases e1
    | [], hd => cases hd
    | .inr _ :: _, hd => cases hd
  case dup =>
    match st, hd with
    | x :: r, hd =>
      have hk := zG_go hd hg
      exact fun H locs lj hP hS hl => lv_dup hx hb hdc (ztr_cat ad x) (hk H locs lj hP hS hl)
    | [], hd => cases hd
  case dup2 =>
    match st, hd with
    | x :: y :: r, hd =>
      have hk := zG_go hd hg
      exact fun H locs lj hP hS hl => lv_dup2_11 hx hb hdc (ztr_cat ad x) (ztr_cat ad y) (hk H locs lj hP hS hl)
    | [], hd => cases hd
    | [_], hd => cases hd
  case pop =>
    match st, hd with
    | x :: r, hd =>
      have hk := zG_go hd hg
      exact fun H locs lj hP hS hl => lv_pop hx hb hdc (ztr_cat ad x) (hk H locs lj hP hS hl)
    | [], hd => cases hd
  case getfield x =>
    match st, hd with
    | .inr o :: r, hd => exact zs_get hx hb hown hts hK hdc ok hd hg
    | [], hd => cases hd
    | .inl _ :: _, hd => cases hd
  case putfield x =>
    match st, hd with
    | .inl y :: .inr o :: r, hd => exact zs_put hx hb hown hts hK hap hA hdc ok hd hg
    | [], hd => cases hd
    | [_], hd => first | cases hd | (rename_i w; cases w <;> cases hd)
    | .inr _ :: _ :: _, hd => cases hd
    | .inl _ :: .inl _ :: _, hd => cases hd
  case iaload =>
    match st, hd with
    | .inl x :: .inr o :: r, hd =>
      rcases ok with ok | ⟨ok, hsf⟩
      · subst ok
        exact zs_iald hx hb hK hdc hd hg
      · subst ok
        obtain ⟨hbb, hk⟩ := zG_if hd hg
        rw [Bool.and_eq_true] at hbb
        have ho := Nat.eq_of_beq_eq_true hbb.1
        subst ho
        obtain ⟨h2, h3, h4⟩ := hsc hsf
        intro H locs lj hP hS hl
        exact va_sld hx hb h2 h3 h4 hS (zib_in hbb.2) hdc (hk H locs lj hP hS hl)
    | [], hd => cases hd
    | [_], hd => first | cases hd | (rename_i w; cases w <;> cases hd)
    | .inr _ :: _ :: _, hd => cases hd
    | .inl _ :: .inl _ :: _, hd => cases hd
  case arraylength =>
    match st, hd with
    | .inr o :: r, hd =>
      obtain ⟨hbb, hk⟩ := zG_if hd hg
      rw [Bool.and_eq_true] at hbb
      have ho := Nat.eq_of_beq_eq_true hbb.2
      subst ho
      obtain ⟨h2, h3, h4⟩ := hsc ok
      intro H locs lj hP hS hl
      exact va_slen hx hb h2 h3 h4 hS hdc (hk H locs lj hP hS hl)
    | [], hd => cases hd
    | .inl _ :: _, hd => cases hd
  case caload =>
    match st, hd with
    | .inl x :: .inr o :: r, hd => exact zs_cald hx hb hK hdc hd hg
    | [], hd => cases hd
    | [_], hd => first | cases hd | (rename_i w; cases w <;> cases hd)
    | .inr _ :: _ :: _, hd => cases hd
    | .inl _ :: .inl _ :: _, hd => cases hd
  case aaload =>
    match st, hd with
    | .inl x :: .inr o :: r, hd => exact zs_aald hx hb hK hdc hd hg
    | [], hd => cases hd
    | [_], hd => first | cases hd | (rename_i w; cases w <;> cases hd)
    | .inr _ :: _ :: _, hd => cases hd
    | .inl _ :: .inl _ :: _, hd => cases hd
  case iastore =>
    match st, hd with
    | .inl y :: .inl x :: .inr o :: r, hd => exact zs_iast hx hb hK hap hA hdc hd hg
    | [], hd => cases hd
    | [_], hd => first | cases hd | (rename_i w; cases w <;> cases hd)
    | [w1, w2], hd => first | cases hd | (cases w1 <;> first | cases hd | (cases w2 <;> cases hd))
    | .inr _ :: _ :: _ :: _, hd => cases hd
    | .inl _ :: .inr _ :: _ :: _, hd => cases hd
    | .inl _ :: .inl _ :: .inl _ :: _, hd => cases hd
  case castore =>
    match st, hd with
    | .inl y :: .inl x :: .inr o :: r, hd => exact zs_cast hx hb hK hap hA hdc hd hg
    | [], hd => cases hd
    | [_], hd => first | cases hd | (rename_i w; cases w <;> cases hd)
    | [w1, w2], hd => first | cases hd | (cases w1 <;> first | cases hd | (cases w2 <;> cases hd))
    | .inr _ :: _ :: _ :: _, hd => cases hd
    | .inl _ :: .inr _ :: _ :: _, hd => cases hd
    | .inl _ :: .inl _ :: .inl _ :: _, hd => cases hd
  case ireturn =>
    match st, hd with
    | [.inl x], hd =>
      cases hd
      obtain ⟨hbb, he⟩ := hg
      refine fun H locs lj hP hS hl => hretI pc x H locs lj h he ok (fun hr => ?_) hdc hP hS
      subst hr
      have h9 : x = nI 0 ∨ x = nI 1 := by simpa [zbo] using hbb
      exact h9
    | [], hd => cases hd
    | [.inr _], hd => cases hd
    | .inl _ :: _ :: _, hd => cases hd
    | .inr _ :: _ :: _, hd => cases hd
  case return_ =>
    match st, hd with
    | [], hd =>
      cases hd
      obtain ⟨hbb, he⟩ := hg
      exact fun H locs lj hP hS hl => hretV pc H locs lj h he ok hdc hP hS
    | _ :: _, hd => cases hd
  case invokevirtual x => exact zs_callV hx hb hml hown hts hK hNE hA2 hR hRc hcall hdc ok hd hg
  case invokestatic x =>
    rcases ok with ⟨rfl, k1, k2, k3, k4⟩ | ⟨rfl, k1, k2, k3, k4⟩ | ⟨rfl, ok⟩ | ⟨rfl, k1, k2, k3, k4⟩ | ⟨rfl, k1, k2, k3, k4⟩
    · match st, hd with
      | .inl y :: .inl x :: r, hd =>
        obtain ⟨hbb, hk⟩ := zG_if hd hg
        have h8 := Nat.le_of_ble_eq_true hbb
        intro H locs lj hP hS hl
        exact va_mmin hx hb (by rw [hml]; exact hl.2.1.symm) hown (hts _ k1) (hts _ k2) (hts _ k3) (hts _ k4) (by omega) (by rw [zcat_sum]; omega) hRc.1 hRc.2 hdc (hk H locs lj hP hS hl)
      | [], hd => cases hd
      | [_], hd => first | cases hd | (rename_i w; cases w <;> cases hd)
      | .inr _ :: _ :: _, hd => cases hd
      | .inl _ :: .inr _ :: _, hd => cases hd
    · match st, hd with
      | .inl y :: .inl x :: r, hd =>
        obtain ⟨hbb, hk⟩ := zG_if hd hg
        have h8 := Nat.le_of_ble_eq_true hbb
        intro H locs lj hP hS hl
        exact va_mmax hx hb (by rw [hml]; exact hl.2.1.symm) hown (hts _ k1) (hts _ k2) (hts _ k3) (hts _ k4) (by omega) (by rw [zcat_sum]; omega) hRc.1 hRc.2 hdc (hk H locs lj hP hS hl)
      | [], hd => cases hd
      | [_], hd => first | cases hd | (rename_i w; cases w <;> cases hd)
      | .inr _ :: _ :: _, hd => cases hd
      | .inl _ :: .inr _ :: _, hd => cases hd
    · replace hd : zstp zib zci zbo znz mci rb scr (pc, .invokestatic x, len, v, 5, a, b) ls st h = some d := hd
      simp only [zstp] at hd
      split at hd
      · exact zs_copy hx hb hml hown hts hK hap hA (by omega) hdc ok hd hg
      · cases hd
    · exact zs_callS hx hb hml hown hts hK hNE hA2 hR hRc hcall hdc k1 k2 k3 (Or.inl k4) hd hg
    · exact zs_callS hx hb hml hown hts hK hNE hA2 hR hRc hcall hdc k1 k2 k3 (Or.inr k4) hd hg
  all_goals cases (show (none : zD) = some d from hd)
set_option maxHeartbeats 1000000 in
/-- the whole run of a frame -/
theorem zsound {sf rb : Bool} {scr : zSc} {code : List zE} (F : zFr p R s m args c cells slots ad cI cC cS dC dI A nL cc own i)
    (hcall : ∀ j, j < i → zCT l dC dI ad cI cC cS yM bM lM tM j (orc j))
    (hsc : sf = true → va_X (ad 84) scr.1 scr.2 s H0 ∧ ad 84 < H0.size ∧ ¬ A (ad 84))
    (hretI : ∀ (pc : Nat) (x : Int32) (H : Heap) (locs : List Loc) (lj : Array Slot) (h : zHp), r0 = (some x, h) → (tM i).isSome = true → (rb = true → x = 0 ∨ x = 1) → decode cc pc = .ok (.ireturn, 1) → va_P (dC, dI) zCl (zWS ad cI cC cS h) H → va_S A H0 H locs → W p l e R s m args below meth c H locs cells slots Q (F0 m pc lj [.int x]))
    (hretV : ∀ (pc : Nat) (H : Heap) (locs : List Loc) (lj : Array Slot) (h : zHp), r0 = (none, h) → tM i = none → decode cc pc = .ok (.return_, 1) → va_P (dC, dI) zCl (zWS ad cI cC cS h) H → va_S A H0 H locs → W p l e R s m args below meth c H locs cells slots Q (F0 m pc lj []))
    (hok : ∀ q ∈ code, zOK yM bM lM tM mci i own sf q) (hdec : ∀ q ∈ code, decode cc q.1 = .ok (q.2.1, zlen q.2.2.1 q.2.1)) :
    ∀ (pc : Nat) (ls : zLs) (st : List zV) (h : zHp), zrun mci code rb scr orc pc ls st h = some r0 → zW p l e R s m args below meth c cells slots Q ad cI cC cS dC dI A H0 nL pc ls st h := by
  intro pc ls st h hrun
  refine zrun.partial_correctness mci code rb scr orc (fun pc ls st h r => r = r0 → zW p l e R s m args below meth c cells slots Q ad cI cC cS dC dI A H0 nL pc ls st h) ?_ pc ls st h r0 hrun rfl
  intro run ih pc ls st h r hr he
  subst he
  split at hr
  · cases hr
  · rename_i q hq
    obtain ⟨hm, rfl⟩ := zlook_mem _ _ _ hq
    split at hr
    · cases hr
    · rename_i b v hs
      refine zstep F hcall hsc hretI hretV (hok q hm) (hdec q hm) hs ?_
      split at hr
      · rename_i hb
        cases hr
        exact ⟨hb, rfl⟩
      · cases hr
    · rename_i b j as pc' ls' rest hs
      refine zstep F hcall hsc hretI hretV (hok q hm) (hdec q hm) hs ?_
      split at hr
      · rename_i hb
        obtain ⟨q2, h1, h2⟩ := Option.bind_eq_some_iff.mp hr
        exact ⟨hb, q2, h1, ih _ _ _ _ _ h2 rfl⟩
      · cases hr
    · rename_i b n1 n2 hs
      refine zstep F hcall hsc hretI hretV (hok q hm) (hdec q hm) hs ?_
      split at hr
      · rename_i hb
        split at hr
        · cases hr
        · rename_i n
          exact ⟨fun _ => ⟨n, rfl, ih _ _ _ _ _ hr rfl⟩, fun q => by rw [hb] at q; cases q⟩
      · rename_i hb
        split at hr
        · cases hr
        · rename_i n
          exact ⟨fun q => absurd q hb, fun _ => ⟨n, rfl, ih _ _ _ _ _ hr rfl⟩⟩
end ZY
end
section
/-! A method's contract out of the small machine's run of its code. -/
def zargs (n : Nat) (as : List zV) : zLs := as.map some ++ List.replicate (n - as.length) none
/-- the method of 'n' locals, as a function -/
def zfun (mci : Nat → Nat) (code : List zE) (rb : Bool) (orc : zOr) (n : Nat) (as : List zV) (h : zHp) : zRs := if Nat.ble as.length n then zrun mci code rb (0, fun _ => 0) orc 0 (zargs n as) [] h else none
theorem zll_args {ad : Nat → Nat} : ∀ (as : List zV) (i k : Nat), zll ad i (as.map some ++ List.replicate k none) = lv_args i (as.map (ztr ad)) := by
  intro as
  induction as with
  | nil =>
    intro i k
    induction k generalizing i with
    | zero => rfl
    | succ k ih => exact ih (i + 1)
  | cons a t ih =>
    intro i k
    show (i, ztr ad a) :: zll ad (i + 1) (t.map some ++ List.replicate k none) = _
    rw [ih]
    have h1 : ¬ (ztr ad a).category = 2 := by rw [ztr_cat]; decide
    simp only [List.map_cons, lv_args, if_neg h1]
theorem zlg_len {ad : Nat → Nat} (as : List zV) : (lg_sl (as.map (ztr ad))).length = as.length := by
  induction as with
  | nil => rfl
  | cons a t ih =>
    have h1 : ¬ (ztr ad a).category = 2 := by rw [ztr_cat]; decide
    simp only [lg_sl, List.map_cons, List.flatMap_cons, if_neg h1, List.length_append, List.length_cons, List.length_nil] at ih ⊢
    omega
set_option maxHeartbeats 1000000 in
theorem zMet {l : Launch} {dC : Nat → ClassId} {dI : Nat → Nat → Nat} {ad : Nat → Nat} {cI cC cS : ClassId} {yM : Nat → MethodName} {bM : Nat → ByteArray} {lM : Nat → Nat} {tM : Nat → Option FieldType} {mci : Nat → Nat} {orc : zOr} {i : Nat} {rb : Bool} {code : List zE} (hap : zap ad)
    (hcall : ∀ j, j < i → zCT l dC dI ad cI cC cS yM bM lM tM j (orc j)) (hplain : plainName (yM i).cls = true) (ht : tM i = none ∨ (tM i = some .int ∧ rb = false) ∨ (tM i = some .boolean ∧ rb = true))
    (hok : ∀ q ∈ code, zOK yM bM lM tM mci i (yM i).cls false q) (hdec : ∀ q ∈ code, decode (bM i) q.1 = .ok (q.2.1, zlen q.2.2.1 q.2.1)) :
    zCT l dC dI ad cI cC cS yM bM lM tM i (zfun mci code rb orc (lM i)) := by
  intro as h r h' hrun
  unfold zfun at hrun
  split at hrun
  · rename_i hle
    have hle := Nat.le_of_ble_eq_true hle
    refine Met.ofW (cc := bM i) (maxL := lM i) (ret := tM i) hplain rfl ?_
    intro p e s m args below meth c s₁ B hml hv
    obtain ⟨rfl, hP, hK, hNE⟩ := hv
    have hx := B.exec
    have hb := B.bytes
    have hr := B.returns
    have hlocks := B.notSynchronized
    have hts0 := atoms_spec (ws := zwsM yM bM lM tM i) B.pre
    have hts : ∀ w ∈ zbw, w.before (as.map (ztr ad)).toArray s = true := fun w hw => hts0 w (List.mem_cons_of_mem _ hw)
    have hown : s.vm.findClass (yM i).cls = some m.cls := findClass_of_methodNamed B.named
    have hS : va_S (zAD ad) s.heap s.heap [] := va_S.rf
    have hl := lv_entry (as.map (ztr ad)) (n := lM i) (by rw [zlg_len]; exact hle)
    rw [lg_entry_eq]
    have hlr : zLR ad ((lg_sl (as.map (ztr ad)) ++ List.replicate (lM i - (lg_sl (as.map (ztr ad))).length) Slot.unset).toArray) (lM i) (zargs (lM i) as) := by
      refine ⟨by simp [zargs]; omega, ?_⟩
      unfold zargs
      rw [zll_args]
      exact hl
    have F : zFr p (zrm i) s m (as.map (ztr ad)).toArray c 0 0 ad cI cC cS dC dI (zAD ad) (lM i) (bM i) (yM i).cls i := ⟨hx, hb, hml, hown, hts, hK, hNE, hap, fun _ h => h, ⟨Nat.le_refl _, Nat.le_refl _⟩, ⟨Nat.le_refl _, Nat.le_refl _⟩⟩
    refine zsound (r0 := (r, h')) (H0 := s.heap) (Q := MQ below (zQ dC dI ad cI cC cS r h') (as.map (ztr ad)).toArray s 0 0 (zAD ad)) (sf := false) F hcall (fun q => by cases q) ?_ ?_ hok hdec 0 _ [] h hrun s.heap [] _ hP hS hlr
    · intro pc x H locs lj h2 he hsome hrb hdc hP2 hS2
      cases he
      have hnar : ∃ ty, tM i = some ty ∧ narrow ty (.int x) = .int x := by
        rcases ht with q | ⟨q, q2⟩ | ⟨q, q2⟩
        · rw [q] at hsome
          cases hsome
        · exact ⟨_, q, rfl⟩
        · refine ⟨_, q, ?_⟩
          rcases hrb q2 with rfl | rfl <;> decide
      obtain ⟨ty, q1, q2⟩ := hnar
      exact W.zret (ty := ty) hx hb (hr.trans q1) q2 (fun t ht hW => ⟨⟨x, (), rfl, rfl, by rw [ht]; exact hP2, va_K.moved hW.alike hK, zNE_warm hW hNE⟩, hS2.F ht⟩) hS2.2.2 hdc hlocks
    · intro pc H locs lj h2 he hn hdc hP2 hS2
      cases he
      exact W.vret hx hb (hr.trans hn) (fun t ht hW => ⟨⟨(), rfl, trivial, by rw [ht]; exact hP2, va_K.moved hW.alike hK, zNE_warm hW hNE⟩, hS2.F ht⟩) hS2.2.2 hdc hlocks
  · cases hrun
end
section
/-! The same step told straight on, so that it computes fast. -/
def zand (x y : Int32) : Int32 := x &&& y
def zor (x y : Int32) : Int32 := x ||| y
def zxor (x y : Int32) : Int32 := x ^^^ y
def zshl (x y : Int32) : Int32 := x <<< (y &&& 31)
def zshr (x y : Int32) : Int32 := x >>> (y &&& 31)
def zushr (x y : Int32) : Int32 := (x.toUInt32 >>> (y.toUInt32 &&& Int32.toUInt32 31)).toInt32
def zdiv (x y : Int32) : Int32 := x / y
def zrem (x y : Int32) : Int32 := x - x / y * y
def zmin (x y : Int32) : Int32 := if y < x then y else x
def zmax (x y : Int32) : Int32 := if x < y then y else x
def zi2c (x : Int32) : Int32 := (x.toUInt32 % 65536).toInt32
def zrD (orc : zOr) (K : Nat → zLs → List zV → zHp → zRs) (h : zHp) (d : zD) : zRs :=
  match d with
  | none => none
  | some (.inl (b, v)) => if b = true then some (v, h) else none
  | some (.inr (.inl (b, j, as, pc', ls', rest))) => if b = true then (orc j as h).bind (fun r => K pc' ls' (zpush r.1 rest) r.2) else none
  | some (.inr (.inr (b, n1, n2))) => if b = true then (match n1 with
      | none => none
      | some n => K n.1 n.2.1 n.2.2.1 n.2.2.2) else (match n2 with
      | none => none
      | some n => K n.1 n.2.1 n.2.2.1 n.2.2.2)
def zcps (ib : Int32 → Nat → Bool) (ci : ClassFile.Cond → Int32 → Int32 → Bool) (bo nz : Int32 → Bool) (mci : Nat → Nat) (rb : Bool) (scr : zSc) (orc : zOr) (K : Nat → zLs → List zV → zHp → zRs) (q : zE) (ls : zLs) (st : List zV) (h : zHp) : zRs :=
  match q with
  | (pc, ins, len, v, t, a, b) => match ins with
    | .iload_n k => match znth ls k with
      | some (some (.inl x)) => K (pc + 1) ls (.inl x :: st) h
      | _ => none
    | .iload k => match znth ls k with
      | some (some (.inl x)) => K (pc + 2) ls (.inl x :: st) h
      | _ => none
    | .aload_n k => match znth ls k with
      | some (some (.inr x)) => K (pc + 1) ls (.inr x :: st) h
      | _ => none
    | .istore_n k => match st with
      | .inl x :: r => if Nat.blt k ls.length = true then K (pc + 1) (zset ls k (some (.inl x))) r h else none
      | _ => none
    | .istore k => match st with
      | .inl x :: r => if Nat.blt k ls.length = true then K (pc + 2) (zset ls k (some (.inl x))) r h else none
      | _ => none
    | .iinc k _ => match znth ls k with
      | some (some (.inl x)) => if Nat.blt k ls.length = true then K (pc + 3) (zset ls k (some (.inl (x + v)))) st h else none
      | _ => none
    | .iconst _ => K (pc + 1) ls (.inl v :: st) h
    | .bipush _ => K (pc + 2) ls (.inl v :: st) h
    | .sipush _ => K (pc + 3) ls (.inl v :: st) h
    | .ldc_w _ => K (pc + 3) ls (.inl v :: st) h
    | .iadd => match st with
      | .inl y :: .inl x :: r => K (pc + 1) ls (.inl (x + y) :: r) h
      | _ => none
    | .isub => match st with
      | .inl y :: .inl x :: r => K (pc + 1) ls (.inl (x - y) :: r) h
      | _ => none
    | .imul => match st with
      | .inl y :: .inl x :: r => K (pc + 1) ls (.inl (x * y) :: r) h
      | _ => none
    | .iand => match st with
      | .inl y :: .inl x :: r => K (pc + 1) ls (.inl (zand x y) :: r) h
      | _ => none
    | .ior => match st with
      | .inl y :: .inl x :: r => K (pc + 1) ls (.inl (zor x y) :: r) h
      | _ => none
    | .ixor => match st with
      | .inl y :: .inl x :: r => K (pc + 1) ls (.inl (zxor x y) :: r) h
      | _ => none
    | .ishl => match st with
      | .inl y :: .inl x :: r => K (pc + 1) ls (.inl (zshl x y) :: r) h
      | _ => none
    | .ishr => match st with
      | .inl y :: .inl x :: r => K (pc + 1) ls (.inl (zshr x y) :: r) h
      | _ => none
    | .iushr => match st with
      | .inl y :: .inl x :: r => K (pc + 1) ls (.inl (zushr x y) :: r) h
      | _ => none
    | .idiv => match st with
      | .inl y :: .inl x :: r => if nz y = true then K (pc + 1) ls (.inl (zdiv x y) :: r) h else none
      | _ => none
    | .irem => match st with
      | .inl y :: .inl x :: r => if nz y = true then K (pc + 1) ls (.inl (zrem x y) :: r) h else none
      | _ => none
    | .i2c => match st with
      | .inl x :: r => K (pc + 1) ls (.inl (zi2c x) :: r) h
      | _ => none
    | .if_icmp c _ => match st with
      | .inl y :: .inl x :: r => if ci c x y = true then K t ls r h else K (pc + 3) ls r h
      | _ => none
    | .ifCond c _ => match st with
      | .inl x :: r => if ci c x (nI 0) = true then K t ls r h else K (pc + 3) ls r h
      | _ => none
    | .goto _ => K t ls st h
    | .tableswitch d lo hi offs => match st with
      | .inl x :: r => if (decide (x.toInt < lo) || decide (hi < x.toInt)) = true then K t ls r h else zrD orc K h (match offs[(x.toInt - lo).toNat]? with
        | some off => if 0 ≤ (pc : Int) + off then zgo (((pc : Int) + off).toNat, ls, r, h) else none
        | none => none)
      | _ => none
    | .dup => match st with
      | x :: r => K (pc + 1) ls (x :: x :: r) h
      | _ => none
    | .dup2 => match st with
      | x :: y :: r => K (pc + 1) ls (x :: y :: x :: y :: r) h
      | _ => none
    | .pop => match st with
      | _ :: r => K (pc + 1) ls r h
      | _ => none
    | .getfield _ => match st with
      | .inr o :: r => if Nat.beq (zSk o) a = true then K (pc + 3) ls ((if Nat.beq (zFT a b) 2 then .inr (zHR o b) else .inl (h o b)) :: r) h else none
      | _ => none
    | .putfield _ => match st with
      | .inl x :: .inr o :: r => if (Nat.beq (zSk o) a && (Nat.beq (zFT a b) 0 || bo x)) = true then K (pc + 3) ls r (zup h o b x) else none
      | _ => none
    | .iaload => match st with
      | .inl i :: .inr o :: r => if Nat.beq t 1 = true then (if (Nat.beq o 84 && ib i scr.1) = true then K (pc + 1) ls (.inl (scr.2 i.toNatClampNeg) :: r) h else none) else (if (Nat.beq (zSk o) 8 && ib i (zSn o)) = true then K (pc + 1) ls (.inl (h o i.toNatClampNeg) :: r) h else none)
      | _ => none
    | .caload => match st with
      | .inl i :: .inr o :: r => if (Nat.beq (zSk o) 7 && ib i (zSn o)) = true then K (pc + 1) ls (.inl (h o i.toNatClampNeg) :: r) h else none
      | _ => none
    | .aaload => match st with
      | .inl i :: .inr o :: r => if (Nat.beq (zSk o) 9 && ib i (zSn o)) = true then K (pc + 1) ls (.inr (zHR o i.toNatClampNeg) :: r) h else none
      | _ => none
    | .iastore => match st with
      | .inl x :: .inl i :: .inr o :: r => if (Nat.beq (zSk o) 8 && ib i (zSn o)) = true then K (pc + 1) ls r (zup h o i.toNatClampNeg x) else none
      | _ => none
    | .castore => match st with
      | .inl x :: .inl i :: .inr o :: r => if (Nat.beq (zSk o) 7 && ib i (zSn o)) = true then K (pc + 1) ls r (zup h o i.toNatClampNeg (vp_nar .char x)) else none
      | _ => none
    | .arraylength => match st with
      | .inr o :: r => if (Nat.beq t 1 && Nat.beq o 84) = true then K (pc + 1) ls (.inl (Int32.ofNat scr.1) :: r) h else none
      | _ => none
    | .ireturn => match st with
      | [.inl x] => if (!rb || bo x) = true then some (some x, h) else none
      | _ => none
    | .return_ => match st with
      | [] => some (none, h)
      | _ => none
    | .invokevirtual _ => match st.drop b with
      | .inr o :: rest => if (Nat.beq (zSk o) (mci a) && Nat.beq (st.take b).length b && Nat.ble rest.length 8) = true then (orc a (.inr o :: (st.take b).reverse) h).bind (fun r => K (pc + 3) ls (zpush r.1 rest) r.2) else none
      | _ => none
    | .invokestatic _ => match t with
      | 3 => match st with
        | .inl y :: .inl x :: r => if Nat.ble r.length 8 = true then K (pc + 3) ls (.inl (zmin x y) :: r) h else none
        | _ => none
      | 4 => match st with
        | .inl y :: .inl x :: r => if Nat.ble r.length 8 = true then K (pc + 3) ls (.inl (zmax x y) :: r) h else none
        | _ => none
      | 5 => match st with
        | .inl n :: .inl dp :: .inr d :: .inl sp :: .inr s :: r => if (Nat.beq (zSk s) 8 && Nat.beq (zSk d) 8 && (!decide (sp < 0) && !decide (dp < 0) && !decide (n < 0)) && Nat.ble (sp.toNatClampNeg + n.toNatClampNeg) (zSn s) && Nat.ble (dp.toNatClampNeg + n.toNatClampNeg) (zSn d) && Nat.ble r.length 8) = true then K (pc + 3) ls r (zcp h s d sp.toNatClampNeg dp.toNatClampNeg n.toNatClampNeg) else none
        | _ => none
      | _ => if (Nat.beq (st.take b).length b && Nat.ble (st.drop b).length 8) = true then (orc a (st.take b).reverse h).bind (fun r => K (pc + 3) ls (zpush r.1 (st.drop b)) r.2) else none
    | _ => none
set_option maxHeartbeats 4000000 in
theorem zcps_eq (ib : Int32 → Nat → Bool) (ci : ClassFile.Cond → Int32 → Int32 → Bool) (bo nz : Int32 → Bool) (mci : Nat → Nat) (rb : Bool) (scr : zSc) (orc : zOr) (K : Nat → zLs → List zV → zHp → zRs) (q : zE) (ls : zLs) (st : List zV) (h : zHp) :
    zrD orc K h (zstp ib ci bo nz mci rb scr q ls st h) = zcps ib ci bo nz mci rb scr orc K q ls st h := by
  obtain ⟨pc, ins, len, v, t, a, b⟩ := q
  cases ins
  case iload_n k => show zrD orc K h (zldI ls k (pc + 1) st h) = (match znth ls k with
      | some (some (.inl x)) => K (pc + 1) ls (.inl x :: st) h
      | _ => none); unfold zldI; generalize znth ls k = w; rcases w with _ | _ | x | x <;> rfl
  case iload k => show zrD orc K h (zldI ls k (pc + 2) st h) = (match znth ls k with
      | some (some (.inl x)) => K (pc + 2) ls (.inl x :: st) h
      | _ => none); unfold zldI; generalize znth ls k = w; rcases w with _ | _ | x | x <;> rfl
  case aload_n k => show zrD orc K h (zldA ls k (pc + 1) st h) = (match znth ls k with
      | some (some (.inr x)) => K (pc + 1) ls (.inr x :: st) h
      | _ => none); unfold zldA; generalize znth ls k = w; rcases w with _ | _ | x | x <;> rfl
  case iinc k n => show zrD orc K h (zinc ls k (pc + 3) v st h) = (match znth ls k with
      | some (some (.inl x)) => if Nat.blt k ls.length = true then K (pc + 3) (zset ls k (some (.inl (x + v)))) st h else none
      | _ => none); unfold zinc; generalize znth ls k = w; rcases w with _ | _ | x | x <;> rfl
  case tableswitch d lo hi offs =>
    rcases st with _ | ⟨x | x, r⟩
    · rfl
    · simp only [zstp, zcps, zrD]
      generalize offs[(x.toInt - lo).toNat]? = w
      cases w with
      | none => rfl
      | some off =>
        by_cases hp : 0 ≤ (pc : Int) + off
        · simp only [if_pos hp, zgo]; rfl
        · simp only [if_neg hp]
    · rfl
  case invokevirtual x =>
    show zrD orc K h (zcv (st.take b) a b (pc + 3) mci ls (st.drop b)) = _
    simp only [zcps]
    generalize List.drop b st = w
    rcases w with _ | ⟨y | y, r⟩
    · rfl
    · rfl
    · rfl
  case invokestatic x =>
    rcases t with _ | _ | _ | _ | _ | _ | t
    · rfl
    · rfl
    · rfl
    · rcases st with _ | ⟨x | x, _ | ⟨y | y, r⟩⟩ <;> rfl
    · rcases st with _ | ⟨x | x, _ | ⟨y | y, r⟩⟩ <;> rfl
    · rcases st with _ | ⟨x | x, _ | ⟨y | y, _ | ⟨z | z, _ | ⟨u | u, _ | ⟨w | w, r⟩⟩⟩⟩⟩ <;> rfl
    · rfl
  all_goals first
    | rfl
    | (rcases st with _ | ⟨x | x, r⟩ <;> rfl)
    | (rcases st with _ | ⟨x | x, _ | ⟨y | y, r⟩⟩ <;> rfl)
    | (rcases st with _ | ⟨x | x, _ | ⟨y | y, _ | ⟨z | z, r⟩⟩⟩ <;> rfl)
    | (rcases st with _ | ⟨x | x, _ | ⟨y | y, r⟩⟩ <;> first | rfl | (unfold zstp zcps; rcases Bool.eq_false_or_eq_true (Nat.beq t 1) with e | e <;> simp only [e] <;> rfl))
theorem zone_cps (ib : Int32 → Nat → Bool) (ci : ClassFile.Cond → Int32 → Int32 → Bool) (bo nz : Int32 → Bool) (mci : Nat → Nat) (code : List zE) (rb : Bool) (scr : zSc) (orc : zOr) (K : Nat → zLs → List zV → zHp → zRs) (pc : Nat) (ls : zLs) (st : List zV) (h : zHp) :
    zone ib ci bo nz mci code rb scr orc K pc ls st h = (match zlook code pc with
      | none => none
      | some q => zcps ib ci bo nz mci rb scr orc K q ls st h) := by
  unfold zone
  cases zlook code pc with
  | none => rfl
  | some q => exact zcps_eq ib ci bo nz mci rb scr orc K q ls st h
/-- some steps, but none through the places 'cut', and then 'K' -/
def zev (ib : Int32 → Nat → Bool) (ci : ClassFile.Cond → Int32 → Int32 → Bool) (bo nz : Int32 → Bool) (mci : Nat → Nat) (code : List zE) (rb : Bool) (scr : zSc) (orc : zOr) (cut : List Nat) (K : Nat → zLs → List zV → zHp → zRs) : Nat → Nat → zLs → List zV → zHp → zRs
  | 0 => K
  | n + 1 => fun pc ls st h => if cut.elem pc then K pc ls st h else (match zlook code pc with
      | none => none
      | some q => zcps ib ci bo nz mci rb scr orc (zev ib ci bo nz mci code rb scr orc cut K n) q ls st h)
theorem zev_eq (ib : Int32 → Nat → Bool) (ci : ClassFile.Cond → Int32 → Int32 → Bool) (bo nz : Int32 → Bool) (mci : Nat → Nat) (code : List zE) (rb : Bool) (scr : zSc) (orc : zOr) (cut : List Nat) (K : Nat → zLs → List zV → zHp → zRs) : ∀ n, zev ib ci bo nz mci code rb scr orc cut K n = zgos ib ci bo nz mci code rb scr orc cut K n := by
  intro n
  induction n with
  | zero => rfl
  | succ n ih =>
    funext pc ls st h
    show (if cut.elem pc then K pc ls st h else (match zlook code pc with
      | none => none
      | some q => zcps ib ci bo nz mci rb scr orc (zev ib ci bo nz mci code rb scr orc cut K n) q ls st h)) = (if cut.elem pc then K pc ls st h else zone ib ci bo nz mci code rb scr orc (zgos ib ci bo nz mci code rb scr orc cut K n) pc ls st h)
    rw [zone_cps, ih]
/-- from a place on: the first step is made in any case -/
theorem zrun_ev (mci : Nat → Nat) (code : List zE) (rb : Bool) (scr : zSc) (orc : zOr) (cut : List Nat) (n : Nat) (pc : Nat) (ls : zLs) (st : List zV) (h : zHp) {q : zE} (hq : zlook code pc = some q) : zrun mci code rb scr orc pc ls st h = zcps zib zci zbo znz mci rb scr orc (zev zib zci zbo znz mci code rb scr orc cut (zrun mci code rb scr orc) n) q ls st h := by
  rw [zrun_go mci code rb scr orc cut n, zone_cps, hq, zev_eq]
end
