section
/-! names and tables, by program out of what TURN printed -/
/-- a private method of a class that the tables say can be made, by its rows of tables_1 -/
def lw_okq (q : MethodName × Nat) : Prop := (q.1.cls ≠ "java/lang/invoke/MethodHandle" ∧ q.1.cls ≠ "java/lang/invoke/VarHandle") ∧ Cond.instantiable q.1.cls q.2 ∈ tables_1 ∧ Cond.privateMethod q.1 ∈ tables_1 ∧ Cond.instanceMethod q.1 ∈ tables_1
theorem lw_p0 : lw_okq (⟨"BorderPaints$State", "isConflictAt", "(I)Z"⟩, 8) := ⟨⟨by decide +kernel, by decide +kernel⟩, List.mem_of_getElem? (i := 20) (by decide +kernel), List.mem_of_getElem? (i := 289) (by decide +kernel), List.mem_of_getElem? (i := 290) (by decide +kernel)⟩
theorem lw_p1 : lw_okq (⟨"BorderPaints$Borders", "removeAt", "(I)V"⟩, 4) := ⟨⟨by decide +kernel, by decide +kernel⟩, List.mem_of_getElem? (i := 26) (by decide +kernel), List.mem_of_getElem? (i := 313) (by decide +kernel), List.mem_of_getElem? (i := 314) (by decide +kernel)⟩
theorem lw_p2 : lw_okq (⟨"BorderPaints$BorderText", "faultInBorder", "(I)I"⟩, 6) := ⟨⟨by decide +kernel, by decide +kernel⟩, List.mem_of_getElem? (i := 110) (by decide +kernel), List.mem_of_getElem? (i := 325) (by decide +kernel), List.mem_of_getElem? (i := 326) (by decide +kernel)⟩
theorem lw_p3 : lw_okq (⟨"BorderPaints$BorderText", "isDigitAt", "(I)Z"⟩, 6) := ⟨⟨by decide +kernel, by decide +kernel⟩, List.mem_of_getElem? (i := 110) (by decide +kernel), List.mem_of_getElem? (i := 329) (by decide +kernel), List.mem_of_getElem? (i := 330) (by decide +kernel)⟩
theorem lw_p4 : lw_okq (⟨"BorderPaints$BorderText", "isSignAt", "(IC)Z"⟩, 6) := ⟨⟨by decide +kernel, by decide +kernel⟩, List.mem_of_getElem? (i := 110) (by decide +kernel), List.mem_of_getElem? (i := 333) (by decide +kernel), List.mem_of_getElem? (i := 334) (by decide +kernel)⟩
theorem lw_p5 : lw_okq (⟨"BorderPaints$BorderText", "digitAt", "(I)I"⟩, 6) := ⟨⟨by decide +kernel, by decide +kernel⟩, List.mem_of_getElem? (i := 110) (by decide +kernel), List.mem_of_getElem? (i := 337) (by decide +kernel), List.mem_of_getElem? (i := 338) (by decide +kernel)⟩
theorem lw_p6 : lw_okq (⟨"BorderPaints$BorderText", "takeBorder", "(II)I"⟩, 6) := ⟨⟨by decide +kernel, by decide +kernel⟩, List.mem_of_getElem? (i := 110) (by decide +kernel), List.mem_of_getElem? (i := 341) (by decide +kernel), List.mem_of_getElem? (i := 342) (by decide +kernel)⟩
theorem lw_p7 : lw_okq (⟨"BorderPaints", "canJoin", "(II)Z"⟩, 6) := ⟨⟨by decide +kernel, by decide +kernel⟩, List.mem_of_getElem? (i := 12) (by decide +kernel), List.mem_of_getElem? (i := 349) (by decide +kernel), List.mem_of_getElem? (i := 350) (by decide +kernel)⟩
theorem lw_p8 : lw_okq (⟨"BorderPaints$Repainter", "coloursFor", "(I)I"⟩, 7) := ⟨⟨by decide +kernel, by decide +kernel⟩, List.mem_of_getElem? (i := 141) (by decide +kernel), List.mem_of_getElem? (i := 390) (by decide +kernel), List.mem_of_getElem? (i := 391) (by decide +kernel)⟩
theorem lw_p9 : lw_okq (⟨"BorderPaints$State", "withEitherColour", "(II)I"⟩, 8) := ⟨⟨by decide +kernel, by decide +kernel⟩, List.mem_of_getElem? (i := 20) (by decide +kernel), List.mem_of_getElem? (i := 403) (by decide +kernel), List.mem_of_getElem? (i := 404) (by decide +kernel)⟩
theorem lw_p10 : lw_okq (⟨"BorderPaints$Repainter", "bindsLaterOnes", "(I)Z"⟩, 7) := ⟨⟨by decide +kernel, by decide +kernel⟩, List.mem_of_getElem? (i := 141) (by decide +kernel), List.mem_of_getElem? (i := 502) (by decide +kernel), List.mem_of_getElem? (i := 503) (by decide +kernel)⟩
theorem lw_p11 : lw_okq (⟨"BorderPaintsModel", "record", "()V"⟩, 19) := ⟨⟨by decide +kernel, by decide +kernel⟩, List.mem_of_getElem? (i := 547) (by decide +kernel), List.mem_of_getElem? (i := 621) (by decide +kernel), List.mem_of_getElem? (i := 622) (by decide +kernel)⟩
theorem lw_p12 : lw_okq (⟨"BorderPaintsModel", "puts", "(III)V"⟩, 19) := ⟨⟨by decide +kernel, by decide +kernel⟩, List.mem_of_getElem? (i := 547) (by decide +kernel), List.mem_of_getElem? (i := 625) (by decide +kernel), List.mem_of_getElem? (i := 626) (by decide +kernel)⟩
theorem lw_p13 : lw_okq (⟨"BorderPaintsModel", "no", "(I)Z"⟩, 19) := ⟨⟨by decide +kernel, by decide +kernel⟩, List.mem_of_getElem? (i := 547) (by decide +kernel), List.mem_of_getElem? (i := 633) (by decide +kernel), List.mem_of_getElem? (i := 634) (by decide +kernel)⟩
theorem lw_p14 : lw_okq (⟨"BorderPaintsModel", "isThere", "(I)Z"⟩, 19) := ⟨⟨by decide +kernel, by decide +kernel⟩, List.mem_of_getElem? (i := 547) (by decide +kernel), List.mem_of_getElem? (i := 637) (by decide +kernel), List.mem_of_getElem? (i := 638) (by decide +kernel)⟩
theorem lw_p15 : lw_okq (⟨"BorderPaintsModel", "of", "(II)I"⟩, 19) := ⟨⟨by decide +kernel, by decide +kernel⟩, List.mem_of_getElem? (i := 547) (by decide +kernel), List.mem_of_getElem? (i := 641) (by decide +kernel), List.mem_of_getElem? (i := 642) (by decide +kernel)⟩
def lw_privs_1 : List (MethodName × Nat) := [(⟨"BorderPaints$State", "isConflictAt", "(I)Z"⟩, 8), (⟨"BorderPaints$Borders", "removeAt", "(I)V"⟩, 4), (⟨"BorderPaints$BorderText", "faultInBorder", "(I)I"⟩, 6), (⟨"BorderPaints$BorderText", "isDigitAt", "(I)Z"⟩, 6), (⟨"BorderPaints$BorderText", "isSignAt", "(IC)Z"⟩, 6), (⟨"BorderPaints$BorderText", "digitAt", "(I)I"⟩, 6), (⟨"BorderPaints$BorderText", "takeBorder", "(II)I"⟩, 6), (⟨"BorderPaints", "canJoin", "(II)Z"⟩, 6), (⟨"BorderPaints$Repainter", "coloursFor", "(I)I"⟩, 7), (⟨"BorderPaints$State", "withEitherColour", "(II)I"⟩, 8), (⟨"BorderPaints$Repainter", "bindsLaterOnes", "(I)Z"⟩, 7), (⟨"BorderPaintsModel", "record", "()V"⟩, 19), (⟨"BorderPaintsModel", "puts", "(III)V"⟩, 19), (⟨"BorderPaintsModel", "no", "(I)Z"⟩, 19), (⟨"BorderPaintsModel", "isThere", "(I)Z"⟩, 19), (⟨"BorderPaintsModel", "of", "(II)I"⟩, 19)]
theorem lw_r1 : ∀ q ∈ lw_privs_1, lw_okq q := List.forall_mem_cons.mpr ⟨lw_p0, List.forall_mem_cons.mpr ⟨lw_p1, List.forall_mem_cons.mpr ⟨lw_p2, List.forall_mem_cons.mpr ⟨lw_p3, List.forall_mem_cons.mpr ⟨lw_p4, List.forall_mem_cons.mpr ⟨lw_p5, List.forall_mem_cons.mpr ⟨lw_p6, List.forall_mem_cons.mpr ⟨lw_p7, List.forall_mem_cons.mpr ⟨lw_p8, List.forall_mem_cons.mpr ⟨lw_p9, List.forall_mem_cons.mpr ⟨lw_p10, List.forall_mem_cons.mpr ⟨lw_p11, List.forall_mem_cons.mpr ⟨lw_p12, List.forall_mem_cons.mpr ⟨lw_p13, List.forall_mem_cons.mpr ⟨lw_p14, List.forall_mem_cons.mpr ⟨lw_p15, fun _ h => absurd h List.not_mem_nil⟩⟩⟩⟩⟩⟩⟩⟩⟩⟩⟩⟩⟩⟩⟩⟩
theorem lw_p16 : lw_okq (⟨"BorderPaintsModel", "wrongs", "()I"⟩, 19) := ⟨⟨by decide +kernel, by decide +kernel⟩, List.mem_of_getElem? (i := 547) (by decide +kernel), List.mem_of_getElem? (i := 645) (by decide +kernel), List.mem_of_getElem? (i := 646) (by decide +kernel)⟩
theorem lw_p17 : lw_okq (⟨"BorderPaintsModel", "isWrong", "(I)Z"⟩, 19) := ⟨⟨by decide +kernel, by decide +kernel⟩, List.mem_of_getElem? (i := 547) (by decide +kernel), List.mem_of_getElem? (i := 649) (by decide +kernel), List.mem_of_getElem? (i := 650) (by decide +kernel)⟩
theorem lw_p18 : lw_okq (⟨"BorderPaintsModel", "conflicts", "(I)I"⟩, 19) := ⟨⟨by decide +kernel, by decide +kernel⟩, List.mem_of_getElem? (i := 547) (by decide +kernel), List.mem_of_getElem? (i := 653) (by decide +kernel), List.mem_of_getElem? (i := 654) (by decide +kernel)⟩
theorem lw_p19 : lw_okq (⟨"BorderPaintsModel", "isConflict", "(II)Z"⟩, 19) := ⟨⟨by decide +kernel, by decide +kernel⟩, List.mem_of_getElem? (i := 547) (by decide +kernel), List.mem_of_getElem? (i := 657) (by decide +kernel), List.mem_of_getElem? (i := 658) (by decide +kernel)⟩
theorem lw_p20 : lw_okq (⟨"BorderPaintsModel", "length", "(II)I"⟩, 19) := ⟨⟨by decide +kernel, by decide +kernel⟩, List.mem_of_getElem? (i := 547) (by decide +kernel), List.mem_of_getElem? (i := 661) (by decide +kernel), List.mem_of_getElem? (i := 662) (by decide +kernel)⟩
theorem lw_p21 : lw_okq (⟨"BorderPaintsModel", "isBad", "(II)Z"⟩, 19) := ⟨⟨by decide +kernel, by decide +kernel⟩, List.mem_of_getElem? (i := 547) (by decide +kernel), List.mem_of_getElem? (i := 665) (by decide +kernel), List.mem_of_getElem? (i := 666) (by decide +kernel)⟩
theorem lw_p22 : lw_okq (⟨"BorderPaintsModel", "set", "(I)I"⟩, 19) := ⟨⟨by decide +kernel, by decide +kernel⟩, List.mem_of_getElem? (i := 547) (by decide +kernel), List.mem_of_getElem? (i := 677) (by decide +kernel), List.mem_of_getElem? (i := 678) (by decide +kernel)⟩
theorem lw_p23 : lw_okq (⟨"BorderPaintsModel", "overBorders", "(I)I"⟩, 19) := ⟨⟨by decide +kernel, by decide +kernel⟩, List.mem_of_getElem? (i := 547) (by decide +kernel), List.mem_of_getElem? (i := 688) (by decide +kernel), List.mem_of_getElem? (i := 689) (by decide +kernel)⟩
theorem lw_p24 : lw_okq (⟨"BorderPaintsModel", "lays", "(III)V"⟩, 19) := ⟨⟨by decide +kernel, by decide +kernel⟩, List.mem_of_getElem? (i := 547) (by decide +kernel), List.mem_of_getElem? (i := 696) (by decide +kernel), List.mem_of_getElem? (i := 697) (by decide +kernel)⟩
theorem lw_p25 : lw_okq (⟨"BorderPaintsModel", "neighbours", "(I)I"⟩, 19) := ⟨⟨by decide +kernel, by decide +kernel⟩, List.mem_of_getElem? (i := 547) (by decide +kernel), List.mem_of_getElem? (i := 707) (by decide +kernel), List.mem_of_getElem? (i := 708) (by decide +kernel)⟩
theorem lw_p26 : lw_okq (⟨"BorderPaintsModel", "goesThrough", "()V"⟩, 19) := ⟨⟨by decide +kernel, by decide +kernel⟩, List.mem_of_getElem? (i := 547) (by decide +kernel), List.mem_of_getElem? (i := 719) (by decide +kernel), List.mem_of_getElem? (i := 720) (by decide +kernel)⟩
theorem lw_p27 : lw_okq (⟨"BorderPaintsModel", "meets", "()V"⟩, 19) := ⟨⟨by decide +kernel, by decide +kernel⟩, List.mem_of_getElem? (i := 547) (by decide +kernel), List.mem_of_getElem? (i := 723) (by decide +kernel), List.mem_of_getElem? (i := 724) (by decide +kernel)⟩
theorem lw_p28 : lw_okq (⟨"BorderPaintsModel", "fits", "(I)Z"⟩, 19) := ⟨⟨by decide +kernel, by decide +kernel⟩, List.mem_of_getElem? (i := 547) (by decide +kernel), List.mem_of_getElem? (i := 727) (by decide +kernel), List.mem_of_getElem? (i := 728) (by decide +kernel)⟩
theorem lw_p29 : lw_okq (⟨"BorderPaintsModel", "areNeighbours", "(II)Z"⟩, 19) := ⟨⟨by decide +kernel, by decide +kernel⟩, List.mem_of_getElem? (i := 547) (by decide +kernel), List.mem_of_getElem? (i := 731) (by decide +kernel), List.mem_of_getElem? (i := 732) (by decide +kernel)⟩
theorem lw_p30 : lw_okq (⟨"BorderPaintsModel", "isBarred", "(II)Z"⟩, 19) := ⟨⟨by decide +kernel, by decide +kernel⟩, List.mem_of_getElem? (i := 547) (by decide +kernel), List.mem_of_getElem? (i := 739) (by decide +kernel), List.mem_of_getElem? (i := 740) (by decide +kernel)⟩
theorem lw_p31 : lw_okq (⟨"BorderPaintsModel", "chainOf", "(II)I"⟩, 19) := ⟨⟨by decide +kernel, by decide +kernel⟩, List.mem_of_getElem? (i := 547) (by decide +kernel), List.mem_of_getElem? (i := 743) (by decide +kernel), List.mem_of_getElem? (i := 744) (by decide +kernel)⟩
def lw_privs_2 : List (MethodName × Nat) := [(⟨"BorderPaintsModel", "wrongs", "()I"⟩, 19), (⟨"BorderPaintsModel", "isWrong", "(I)Z"⟩, 19), (⟨"BorderPaintsModel", "conflicts", "(I)I"⟩, 19), (⟨"BorderPaintsModel", "isConflict", "(II)Z"⟩, 19), (⟨"BorderPaintsModel", "length", "(II)I"⟩, 19), (⟨"BorderPaintsModel", "isBad", "(II)Z"⟩, 19), (⟨"BorderPaintsModel", "set", "(I)I"⟩, 19), (⟨"BorderPaintsModel", "overBorders", "(I)I"⟩, 19), (⟨"BorderPaintsModel", "lays", "(III)V"⟩, 19), (⟨"BorderPaintsModel", "neighbours", "(I)I"⟩, 19), (⟨"BorderPaintsModel", "goesThrough", "()V"⟩, 19), (⟨"BorderPaintsModel", "meets", "()V"⟩, 19), (⟨"BorderPaintsModel", "fits", "(I)Z"⟩, 19), (⟨"BorderPaintsModel", "areNeighbours", "(II)Z"⟩, 19), (⟨"BorderPaintsModel", "isBarred", "(II)Z"⟩, 19), (⟨"BorderPaintsModel", "chainOf", "(II)I"⟩, 19)]
theorem lw_r2 : ∀ q ∈ lw_privs_2, lw_okq q := List.forall_mem_cons.mpr ⟨lw_p16, List.forall_mem_cons.mpr ⟨lw_p17, List.forall_mem_cons.mpr ⟨lw_p18, List.forall_mem_cons.mpr ⟨lw_p19, List.forall_mem_cons.mpr ⟨lw_p20, List.forall_mem_cons.mpr ⟨lw_p21, List.forall_mem_cons.mpr ⟨lw_p22, List.forall_mem_cons.mpr ⟨lw_p23, List.forall_mem_cons.mpr ⟨lw_p24, List.forall_mem_cons.mpr ⟨lw_p25, List.forall_mem_cons.mpr ⟨lw_p26, List.forall_mem_cons.mpr ⟨lw_p27, List.forall_mem_cons.mpr ⟨lw_p28, List.forall_mem_cons.mpr ⟨lw_p29, List.forall_mem_cons.mpr ⟨lw_p30, List.forall_mem_cons.mpr ⟨lw_p31, fun _ h => absurd h List.not_mem_nil⟩⟩⟩⟩⟩⟩⟩⟩⟩⟩⟩⟩⟩⟩⟩⟩
theorem lw_p32 : lw_okq (⟨"BorderPaintsModel", "bordersOfText", "()I"⟩, 19) := ⟨⟨by decide +kernel, by decide +kernel⟩, List.mem_of_getElem? (i := 547) (by decide +kernel), List.mem_of_getElem? (i := 759) (by decide +kernel), List.mem_of_getElem? (i := 760) (by decide +kernel)⟩
theorem lw_p33 : lw_okq (⟨"BorderPaintsModel", "takesBorder", "()Z"⟩, 19) := ⟨⟨by decide +kernel, by decide +kernel⟩, List.mem_of_getElem? (i := 547) (by decide +kernel), List.mem_of_getElem? (i := 763) (by decide +kernel), List.mem_of_getElem? (i := 764) (by decide +kernel)⟩
theorem lw_p34 : lw_okq (⟨"BorderPaintsModel", "isBetween", "(II)Z"⟩, 19) := ⟨⟨by decide +kernel, by decide +kernel⟩, List.mem_of_getElem? (i := 547) (by decide +kernel), List.mem_of_getElem? (i := 767) (by decide +kernel), List.mem_of_getElem? (i := 768) (by decide +kernel)⟩
theorem lw_p35 : lw_okq (⟨"BorderPaintsModel", "takes", "(I)Z"⟩, 19) := ⟨⟨by decide +kernel, by decide +kernel⟩, List.mem_of_getElem? (i := 547) (by decide +kernel), List.mem_of_getElem? (i := 771) (by decide +kernel), List.mem_of_getElem? (i := 772) (by decide +kernel)⟩
theorem lw_p36 : lw_okq (⟨"BorderPaintsModel", "lengths", "(I)I"⟩, 19) := ⟨⟨by decide +kernel, by decide +kernel⟩, List.mem_of_getElem? (i := 547) (by decide +kernel), List.mem_of_getElem? (i := 791) (by decide +kernel), List.mem_of_getElem? (i := 792) (by decide +kernel)⟩
theorem lw_p37 : lw_okq (⟨"BorderPaintsModel", "could", "(I)I"⟩, 19) := ⟨⟨by decide +kernel, by decide +kernel⟩, List.mem_of_getElem? (i := 547) (by decide +kernel), List.mem_of_getElem? (i := 795) (by decide +kernel), List.mem_of_getElem? (i := 796) (by decide +kernel)⟩
theorem lw_p38 : lw_okq (⟨"BorderPaintsModel", "changed", "()I"⟩, 19) := ⟨⟨by decide +kernel, by decide +kernel⟩, List.mem_of_getElem? (i := 547) (by decide +kernel), List.mem_of_getElem? (i := 815) (by decide +kernel), List.mem_of_getElem? (i := 816) (by decide +kernel)⟩
theorem lw_p39 : lw_okq (⟨"BorderPaintsModel", "different", "()I"⟩, 19) := ⟨⟨by decide +kernel, by decide +kernel⟩, List.mem_of_getElem? (i := 547) (by decide +kernel), List.mem_of_getElem? (i := 847) (by decide +kernel), List.mem_of_getElem? (i := 848) (by decide +kernel)⟩
theorem lw_p40 : lw_okq (⟨"BorderPaintsModel", "pairs", "()I"⟩, 19) := ⟨⟨by decide +kernel, by decide +kernel⟩, List.mem_of_getElem? (i := 547) (by decide +kernel), List.mem_of_getElem? (i := 851) (by decide +kernel), List.mem_of_getElem? (i := 852) (by decide +kernel)⟩
def lw_privs_3 : List (MethodName × Nat) := [(⟨"BorderPaintsModel", "bordersOfText", "()I"⟩, 19), (⟨"BorderPaintsModel", "takesBorder", "()Z"⟩, 19), (⟨"BorderPaintsModel", "isBetween", "(II)Z"⟩, 19), (⟨"BorderPaintsModel", "takes", "(I)Z"⟩, 19), (⟨"BorderPaintsModel", "lengths", "(I)I"⟩, 19), (⟨"BorderPaintsModel", "could", "(I)I"⟩, 19), (⟨"BorderPaintsModel", "changed", "()I"⟩, 19), (⟨"BorderPaintsModel", "different", "()I"⟩, 19), (⟨"BorderPaintsModel", "pairs", "()I"⟩, 19)]
theorem lw_r3 : ∀ q ∈ lw_privs_3, lw_okq q := List.forall_mem_cons.mpr ⟨lw_p32, List.forall_mem_cons.mpr ⟨lw_p33, List.forall_mem_cons.mpr ⟨lw_p34, List.forall_mem_cons.mpr ⟨lw_p35, List.forall_mem_cons.mpr ⟨lw_p36, List.forall_mem_cons.mpr ⟨lw_p37, List.forall_mem_cons.mpr ⟨lw_p38, List.forall_mem_cons.mpr ⟨lw_p39, List.forall_mem_cons.mpr ⟨lw_p40, fun _ h => absurd h List.not_mem_nil⟩⟩⟩⟩⟩⟩⟩⟩⟩
def lw_privs : List (MethodName × Nat) := lw_privs_1 ++ (lw_privs_2 ++ (lw_privs_3))
def lw_tbl : List Cond := k2_sels lw_privs ++ tables_1
theorem lw_privs_ok : ∀ q ∈ lw_privs, lw_okq q := by
  show ∀ q ∈ lw_privs_1 ++ (lw_privs_2 ++ (lw_privs_3)), lw_okq q
  exact List.forall_mem_append.mpr ⟨lw_r1, List.forall_mem_append.mpr ⟨lw_r2, lw_r3⟩⟩
def zR0 : String := "BorderPaints$BorderText"
def zT0 : u_T := fun k => match k with
  | 0 => ("BorderPaints$BorderText", "size", "I", false)
  | 1 => ("BorderPaints$BorderText", "signs", "[C", true)
  | 2 => ("BorderPaints$BorderText", "found", "I", false)
  | 3 => ("BorderPaints$BorderText", "first", "[I", true)
  | 4 => ("BorderPaints$BorderText", "second", "[I", true)
  | _ => ("BorderPaints$BorderText", "length", "[I", true)
def zY0 : Nat → FieldType := fun k => match k with
  | 0 => .int
  | 1 => .array .char
  | 2 => .int
  | 3 => .array .int
  | 4 => .array .int
  | _ => .array .int
theorem zN0 : ∀ a, a < 6 → ∀ b, b < 6 → a ≠ b → (zT0 a).2.1 ≠ (zT0 b).2.1 := by decide +kernel
theorem zY0_ok : ∀ k, k < 6 → parseFieldDescriptor (zT0 k).2.2.1 = some (zY0 k) := by decide +kernel
def zR1 : String := "BorderPaints$Borders"
def zT1 : u_T := fun k => match k with
  | 0 => ("BorderPaints$Borders", "size", "I", false)
  | 1 => ("BorderPaints$Borders", "lower", "[I", true)
  | 2 => ("BorderPaints$Borders", "greater", "[I", true)
  | _ => ("BorderPaints$Borders", "length", "[I", true)
def zY1 : Nat → FieldType := fun k => match k with
  | 0 => .int
  | 1 => .array .int
  | 2 => .array .int
  | _ => .array .int
theorem zN1 : ∀ a, a < 4 → ∀ b, b < 4 → a ≠ b → (zT1 a).2.1 ≠ (zT1 b).2.1 := by decide +kernel
theorem zY1_ok : ∀ k, k < 4 → parseFieldDescriptor (zT1 k).2.2.1 = some (zY1 k) := by decide +kernel
def zR2 : String := "BorderPaints$History"
def zT2 : u_T := fun k => match k with
  | 0 => ("BorderPaints$History", "size", "I", false)
  | 1 => ("BorderPaints$History", "next", "I", false)
  | _ => ("BorderPaints$History", "states", "[LBorderPaints$State;", true)
def zY2 : Nat → FieldType := fun k => match k with
  | 0 => .int
  | 1 => .int
  | _ => .array (.object "BorderPaints$State")
theorem zN2 : ∀ a, a < 3 → ∀ b, b < 3 → a ≠ b → (zT2 a).2.1 ≠ (zT2 b).2.1 := by decide +kernel
theorem zY2_ok : ∀ k, k < 3 → parseFieldDescriptor (zT2 k).2.2.1 = some (zY2 k) := by decide +kernel
def zR3 : String := "BorderPaints$Repainter"
def zT3 : u_T := fun k => match k with
  | 0 => ("BorderPaints$Repainter", "state", "LBorderPaints$State;", true)
  | 1 => ("BorderPaints$Repainter", "open", "[I", true)
  | 2 => ("BorderPaints$Repainter", "neighbours", "[I", true)
  | 3 => ("BorderPaints$Repainter", "trial", "[I", true)
  | 4 => ("BorderPaints$Repainter", "least", "[I", true)
  | 5 => ("BorderPaints$Repainter", "leastCost", "I", false)
  | _ => ("BorderPaints$Repainter", "isFound", "Z", false)
def zY3 : Nat → FieldType := fun k => match k with
  | 0 => .object "BorderPaints$State"
  | 1 => .array .int
  | 2 => .array .int
  | 3 => .array .int
  | 4 => .array .int
  | 5 => .int
  | _ => .boolean
theorem zN3 : ∀ a, a < 7 → ∀ b, b < 7 → a ≠ b → (zT3 a).2.1 ≠ (zT3 b).2.1 := by decide +kernel
theorem zY3_ok : ∀ k, k < 7 → parseFieldDescriptor (zT3 k).2.2.1 = some (zY3 k) := by decide +kernel
def zR4 : String := "BorderPaints$State"
def zT4 : u_T := fun k => match k with
  | 0 => ("BorderPaints$State", "ever", "I", false)
  | 1 => ("BorderPaints$State", "there", "I", false)
  | 2 => ("BorderPaints$State", "fixed", "I", false)
  | 3 => ("BorderPaints$State", "colour", "[I", true)
  | 4 => ("BorderPaints$State", "mayHave", "[I", true)
  | 5 => ("BorderPaints$State", "weight", "[I", true)
  | 6 => ("BorderPaints$State", "forbiddenWith", "[I", true)
  | _ => ("BorderPaints$State", "borders", "LBorderPaints$Borders;", true)
def zY4 : Nat → FieldType := fun k => match k with
  | 0 => .int
  | 1 => .int
  | 2 => .int
  | 3 => .array .int
  | 4 => .array .int
  | 5 => .array .int
  | 6 => .array .int
  | _ => .object "BorderPaints$Borders"
theorem zN4 : ∀ a, a < 8 → ∀ b, b < 8 → a ≠ b → (zT4 a).2.1 ≠ (zT4 b).2.1 := by decide +kernel
theorem zY4_ok : ∀ k, k < 8 → parseFieldDescriptor (zT4 k).2.2.1 = some (zY4 k) := by decide +kernel
def zR5 : String := "BorderPaints"
def zT5 : u_T := fun k => match k with
  | 0 => ("BorderPaints", "now", "LBorderPaints$State;", true)
  | 1 => ("BorderPaints", "snapshot", "LBorderPaints$State;", true)
  | 2 => ("BorderPaints", "hasSnapshot", "Z", false)
  | 3 => ("BorderPaints", "history", "LBorderPaints$History;", true)
  | 4 => ("BorderPaints", "text", "LBorderPaints$BorderText;", true)
  | _ => ("BorderPaints", "repainter", "LBorderPaints$Repainter;", true)
def zY5 : Nat → FieldType := fun k => match k with
  | 0 => .object "BorderPaints$State"
  | 1 => .object "BorderPaints$State"
  | 2 => .boolean
  | 3 => .object "BorderPaints$History"
  | 4 => .object "BorderPaints$BorderText"
  | _ => .object "BorderPaints$Repainter"
theorem zN5 : ∀ a, a < 6 → ∀ b, b < 6 → a ≠ b → (zT5 a).2.1 ≠ (zT5 b).2.1 := by decide +kernel
theorem zY5_ok : ∀ k, k < 6 → parseFieldDescriptor (zT5 k).2.2.1 = some (zY5 k) := by decide +kernel
def zR6 : String := "BorderPaintsModel"
def zT6 : u_T := fun k => match k with
  | 0 => ("BorderPaintsModel", "now", "[I", true)
  | 1 => ("BorderPaintsModel", "history", "[I", true)
  | 2 => ("BorderPaintsModel", "kept", "I", false)
  | 3 => ("BorderPaintsModel", "slot", "[I", true)
  | 4 => ("BorderPaintsModel", "isFilled", "Z", false)
  | 5 => ("BorderPaintsModel", "pick", "[I", true)
  | 6 => ("BorderPaintsModel", "best", "[I", true)
  | 7 => ("BorderPaintsModel", "freeOnes", "[I", true)
  | 8 => ("BorderPaintsModel", "least", "I", false)
  | 9 => ("BorderPaintsModel", "many", "I", false)
  | 10 => ("BorderPaintsModel", "fewest", "I", false)
  | 11 => ("BorderPaintsModel", "one", "I", false)
  | 12 => ("BorderPaintsModel", "two", "I", false)
  | 13 => ("BorderPaintsModel", "typed", "I", false)
  | 14 => ("BorderPaintsModel", "text", "[C", true)
  | 15 => ("BorderPaintsModel", "at", "I", false)
  | 16 => ("BorderPaintsModel", "first", "I", false)
  | 17 => ("BorderPaintsModel", "second", "I", false)
  | _ => ("BorderPaintsModel", "number", "I", false)
def zY6 : Nat → FieldType := fun k => match k with
  | 0 => .array .int
  | 1 => .array .int
  | 2 => .int
  | 3 => .array .int
  | 4 => .boolean
  | 5 => .array .int
  | 6 => .array .int
  | 7 => .array .int
  | 8 => .int
  | 9 => .int
  | 10 => .int
  | 11 => .int
  | 12 => .int
  | 13 => .int
  | 14 => .array .char
  | 15 => .int
  | 16 => .int
  | 17 => .int
  | _ => .int
theorem zN6 : ∀ a, a < 19 → ∀ b, b < 19 → a ≠ b → (zT6 a).2.1 ≠ (zT6 b).2.1 := by decide +kernel
theorem zY6_ok : ∀ k, k < 19 → parseFieldDescriptor (zT6 k).2.2.1 = some (zY6 k) := by decide +kernel
def zRR (c : Nat) : String := match c with
  | 0 => zR0
  | 1 => zR1
  | 2 => zR2
  | 3 => zR3
  | 4 => zR4
  | 5 => zR5
  | _ => zR6
def zTT (c : Nat) : u_T := match c with
  | 0 => zT0
  | 1 => zT1
  | 2 => zT2
  | 3 => zT3
  | 4 => zT4
  | 5 => zT5
  | _ => zT6
def zYY (c : Nat) : Nat → FieldType := match c with
  | 0 => zY0
  | 1 => zY1
  | 2 => zY2
  | 3 => zY3
  | 4 => zY4
  | 5 => zY5
  | _ => zY6
def zNF (c : Nat) : Nat := match c with
  | 0 => 6
  | 1 => 4
  | 2 => 3
  | 3 => 7
  | 4 => 8
  | 5 => 6
  | _ => 19
abbrev zCl : List vw_C := [(zR0, zT0, 6), (zR1, zT1, 4), (zR2, zT2, 3), (zR3, zT3, 7), (zR4, zT4, 8), (zR5, zT5, 6), (zR6, zT6, 19)]
theorem zCl_at {c : Nat} (h : c < 7) : zCl[c]? = some (zRR c, zTT c, zNF c) := by
  rcases (show c = 0 ∨ c = 1 ∨ c = 2 ∨ c = 3 ∨ c = 4 ∨ c = 5 ∨ c = 6 by omega) with rfl | rfl | rfl | rfl | rfl | rfl | rfl <;> rfl
/-- the words that every method of ours has at hand -/
def zbw : List Jvm.Cond := lw_tbl.filter goodWord
theorem zin (i : Nat) {w : Jvm.Cond} (h : lw_tbl[i]? = some w) (g : goodWord w = true) : w ∈ zbw := List.mem_filter.mpr ⟨List.mem_of_getElem? h, g⟩
theorem zgood {w : Jvm.Cond} (h : w ∈ zbw) : (w.onTables && w.keeps) = true ∨ ∃ ty, w = .arrayClass ty := good_of_word (List.mem_filter.mp h).2
set_option maxRecDepth 40000 in
theorem zl0_0 : u_lay zR0 zT0 0 ∈ zbw := zin 167 rfl rfl
set_option maxRecDepth 40000 in
theorem zl0_1 : u_lay zR0 zT0 1 ∈ zbw := zin 169 rfl rfl
set_option maxRecDepth 40000 in
theorem zl0_2 : u_lay zR0 zT0 2 ∈ zbw := zin 171 rfl rfl
set_option maxRecDepth 40000 in
theorem zl0_3 : u_lay zR0 zT0 3 ∈ zbw := zin 173 rfl rfl
set_option maxRecDepth 40000 in
theorem zl0_4 : u_lay zR0 zT0 4 ∈ zbw := zin 175 rfl rfl
set_option maxRecDepth 40000 in
theorem zl0_5 : u_lay zR0 zT0 5 ∈ zbw := zin 177 rfl rfl
set_option maxRecDepth 40000 in
theorem zlw0 : ∀ w ∈ u_ws zR0 zT0 6, w ∈ zbw := by
  intro w hw
  obtain ⟨k, hk, rfl⟩ := List.mem_map.mp hw
  have hk := List.mem_range.mp hk
  rcases (show k = 0 ∨ k = 1 ∨ k = 2 ∨ k = 3 ∨ k = 4 ∨ k = 5 by omega) with rfl | rfl | rfl | rfl | rfl | rfl
  · exact zl0_0
  · exact zl0_1
  · exact zl0_2
  · exact zl0_3
  · exact zl0_4
  · exact zl0_5
set_option maxRecDepth 40000 in
theorem zl1_0 : u_lay zR1 zT1 0 ∈ zbw := zin 83 rfl rfl
set_option maxRecDepth 40000 in
theorem zl1_1 : u_lay zR1 zT1 1 ∈ zbw := zin 85 rfl rfl
set_option maxRecDepth 40000 in
theorem zl1_2 : u_lay zR1 zT1 2 ∈ zbw := zin 87 rfl rfl
set_option maxRecDepth 40000 in
theorem zl1_3 : u_lay zR1 zT1 3 ∈ zbw := zin 89 rfl rfl
set_option maxRecDepth 40000 in
theorem zlw1 : ∀ w ∈ u_ws zR1 zT1 4, w ∈ zbw := by
  intro w hw
  obtain ⟨k, hk, rfl⟩ := List.mem_map.mp hw
  have hk := List.mem_range.mp hk
  rcases (show k = 0 ∨ k = 1 ∨ k = 2 ∨ k = 3 by omega) with rfl | rfl | rfl | rfl
  · exact zl1_0
  · exact zl1_1
  · exact zl1_2
  · exact zl1_3
set_option maxRecDepth 40000 in
theorem zl2_0 : u_lay zR2 zT2 0 ∈ zbw := zin 143 rfl rfl
set_option maxRecDepth 40000 in
theorem zl2_1 : u_lay zR2 zT2 1 ∈ zbw := zin 145 rfl rfl
set_option maxRecDepth 40000 in
theorem zl2_2 : u_lay zR2 zT2 2 ∈ zbw := zin 147 rfl rfl
set_option maxRecDepth 40000 in
theorem zlw2 : ∀ w ∈ u_ws zR2 zT2 3, w ∈ zbw := by
  intro w hw
  obtain ⟨k, hk, rfl⟩ := List.mem_map.mp hw
  have hk := List.mem_range.mp hk
  rcases (show k = 0 ∨ k = 1 ∨ k = 2 by omega) with rfl | rfl | rfl
  · exact zl2_0
  · exact zl2_1
  · exact zl2_2
set_option maxRecDepth 40000 in
theorem zl3_0 : u_lay zR3 zT3 0 ∈ zbw := zin 199 rfl rfl
set_option maxRecDepth 40000 in
theorem zl3_1 : u_lay zR3 zT3 1 ∈ zbw := zin 201 rfl rfl
set_option maxRecDepth 40000 in
theorem zl3_2 : u_lay zR3 zT3 2 ∈ zbw := zin 203 rfl rfl
set_option maxRecDepth 40000 in
theorem zl3_3 : u_lay zR3 zT3 3 ∈ zbw := zin 205 rfl rfl
set_option maxRecDepth 40000 in
theorem zl3_4 : u_lay zR3 zT3 4 ∈ zbw := zin 207 rfl rfl
set_option maxRecDepth 40000 in
theorem zl3_5 : u_lay zR3 zT3 5 ∈ zbw := zin 209 rfl rfl
set_option maxRecDepth 40000 in
theorem zl3_6 : u_lay zR3 zT3 6 ∈ zbw := zin 211 rfl rfl
set_option maxRecDepth 40000 in
theorem zlw3 : ∀ w ∈ u_ws zR3 zT3 7, w ∈ zbw := by
  intro w hw
  obtain ⟨k, hk, rfl⟩ := List.mem_map.mp hw
  have hk := List.mem_range.mp hk
  rcases (show k = 0 ∨ k = 1 ∨ k = 2 ∨ k = 3 ∨ k = 4 ∨ k = 5 ∨ k = 6 by omega) with rfl | rfl | rfl | rfl | rfl | rfl | rfl
  · exact zl3_0
  · exact zl3_1
  · exact zl3_2
  · exact zl3_3
  · exact zl3_4
  · exact zl3_5
  · exact zl3_6
set_option maxRecDepth 40000 in
theorem zl4_0 : u_lay zR4 zT4 0 ∈ zbw := zin 113 rfl rfl
set_option maxRecDepth 40000 in
theorem zl4_1 : u_lay zR4 zT4 1 ∈ zbw := zin 115 rfl rfl
set_option maxRecDepth 40000 in
theorem zl4_2 : u_lay zR4 zT4 2 ∈ zbw := zin 117 rfl rfl
set_option maxRecDepth 40000 in
theorem zl4_3 : u_lay zR4 zT4 3 ∈ zbw := zin 119 rfl rfl
set_option maxRecDepth 40000 in
theorem zl4_4 : u_lay zR4 zT4 4 ∈ zbw := zin 121 rfl rfl
set_option maxRecDepth 40000 in
theorem zl4_5 : u_lay zR4 zT4 5 ∈ zbw := zin 123 rfl rfl
set_option maxRecDepth 40000 in
theorem zl4_6 : u_lay zR4 zT4 6 ∈ zbw := zin 125 rfl rfl
set_option maxRecDepth 40000 in
theorem zl4_7 : u_lay zR4 zT4 7 ∈ zbw := zin 127 rfl rfl
set_option maxRecDepth 40000 in
theorem zlw4 : ∀ w ∈ u_ws zR4 zT4 8, w ∈ zbw := by
  intro w hw
  obtain ⟨k, hk, rfl⟩ := List.mem_map.mp hw
  have hk := List.mem_range.mp hk
  rcases (show k = 0 ∨ k = 1 ∨ k = 2 ∨ k = 3 ∨ k = 4 ∨ k = 5 ∨ k = 6 ∨ k = 7 by omega) with rfl | rfl | rfl | rfl | rfl | rfl | rfl | rfl
  · exact zl4_0
  · exact zl4_1
  · exact zl4_2
  · exact zl4_3
  · exact zl4_4
  · exact zl4_5
  · exact zl4_6
  · exact zl4_7
set_option maxRecDepth 40000 in
theorem zl5_0 : u_lay zR5 zT5 0 ∈ zbw := zin 220 rfl rfl
set_option maxRecDepth 40000 in
theorem zl5_1 : u_lay zR5 zT5 1 ∈ zbw := zin 222 rfl rfl
set_option maxRecDepth 40000 in
theorem zl5_2 : u_lay zR5 zT5 2 ∈ zbw := zin 224 rfl rfl
set_option maxRecDepth 40000 in
theorem zl5_3 : u_lay zR5 zT5 3 ∈ zbw := zin 226 rfl rfl
set_option maxRecDepth 40000 in
theorem zl5_4 : u_lay zR5 zT5 4 ∈ zbw := zin 228 rfl rfl
set_option maxRecDepth 40000 in
theorem zl5_5 : u_lay zR5 zT5 5 ∈ zbw := zin 230 rfl rfl
set_option maxRecDepth 40000 in
theorem zlw5 : ∀ w ∈ u_ws zR5 zT5 6, w ∈ zbw := by
  intro w hw
  obtain ⟨k, hk, rfl⟩ := List.mem_map.mp hw
  have hk := List.mem_range.mp hk
  rcases (show k = 0 ∨ k = 1 ∨ k = 2 ∨ k = 3 ∨ k = 4 ∨ k = 5 by omega) with rfl | rfl | rfl | rfl | rfl | rfl
  · exact zl5_0
  · exact zl5_1
  · exact zl5_2
  · exact zl5_3
  · exact zl5_4
  · exact zl5_5
set_option maxRecDepth 40000 in
theorem zl6_0 : u_lay zR6 zT6 0 ∈ zbw := zin 612 rfl rfl
set_option maxRecDepth 40000 in
theorem zl6_1 : u_lay zR6 zT6 1 ∈ zbw := zin 614 rfl rfl
set_option maxRecDepth 40000 in
theorem zl6_2 : u_lay zR6 zT6 2 ∈ zbw := zin 616 rfl rfl
set_option maxRecDepth 40000 in
theorem zl6_3 : u_lay zR6 zT6 3 ∈ zbw := zin 618 rfl rfl
set_option maxRecDepth 40000 in
theorem zl6_4 : u_lay zR6 zT6 4 ∈ zbw := zin 620 rfl rfl
set_option maxRecDepth 40000 in
theorem zl6_5 : u_lay zR6 zT6 5 ∈ zbw := zin 622 rfl rfl
set_option maxRecDepth 40000 in
theorem zl6_6 : u_lay zR6 zT6 6 ∈ zbw := zin 624 rfl rfl
set_option maxRecDepth 40000 in
theorem zl6_7 : u_lay zR6 zT6 7 ∈ zbw := zin 626 rfl rfl
set_option maxRecDepth 40000 in
theorem zl6_8 : u_lay zR6 zT6 8 ∈ zbw := zin 628 rfl rfl
set_option maxRecDepth 40000 in
theorem zl6_9 : u_lay zR6 zT6 9 ∈ zbw := zin 630 rfl rfl
set_option maxRecDepth 40000 in
theorem zl6_10 : u_lay zR6 zT6 10 ∈ zbw := zin 632 rfl rfl
set_option maxRecDepth 40000 in
theorem zl6_11 : u_lay zR6 zT6 11 ∈ zbw := zin 634 rfl rfl
set_option maxRecDepth 40000 in
theorem zl6_12 : u_lay zR6 zT6 12 ∈ zbw := zin 636 rfl rfl
set_option maxRecDepth 40000 in
theorem zl6_13 : u_lay zR6 zT6 13 ∈ zbw := zin 638 rfl rfl
set_option maxRecDepth 40000 in
theorem zl6_14 : u_lay zR6 zT6 14 ∈ zbw := zin 640 rfl rfl
set_option maxRecDepth 40000 in
theorem zl6_15 : u_lay zR6 zT6 15 ∈ zbw := zin 642 rfl rfl
set_option maxRecDepth 40000 in
theorem zl6_16 : u_lay zR6 zT6 16 ∈ zbw := zin 644 rfl rfl
set_option maxRecDepth 40000 in
theorem zl6_17 : u_lay zR6 zT6 17 ∈ zbw := zin 646 rfl rfl
set_option maxRecDepth 40000 in
theorem zl6_18 : u_lay zR6 zT6 18 ∈ zbw := zin 648 rfl rfl
set_option maxRecDepth 40000 in
theorem zlw6 : ∀ w ∈ u_ws zR6 zT6 19, w ∈ zbw := by
  intro w hw
  obtain ⟨k, hk, rfl⟩ := List.mem_map.mp hw
  have hk := List.mem_range.mp hk
  rcases (show k = 0 ∨ k = 1 ∨ k = 2 ∨ k = 3 ∨ k = 4 ∨ k = 5 ∨ k = 6 ∨ k = 7 ∨ k = 8 ∨ k = 9 ∨ k = 10 ∨ k = 11 ∨ k = 12 ∨ k = 13 ∨ k = 14 ∨ k = 15 ∨ k = 16 ∨ k = 17 ∨ k = 18 by omega) with rfl | rfl | rfl | rfl | rfl | rfl | rfl | rfl | rfl | rfl | rfl | rfl | rfl | rfl | rfl | rfl | rfl | rfl | rfl
  · exact zl6_0
  · exact zl6_1
  · exact zl6_2
  · exact zl6_3
  · exact zl6_4
  · exact zl6_5
  · exact zl6_6
  · exact zl6_7
  · exact zl6_8
  · exact zl6_9
  · exact zl6_10
  · exact zl6_11
  · exact zl6_12
  · exact zl6_13
  · exact zl6_14
  · exact zl6_15
  · exact zl6_16
  · exact zl6_17
  · exact zl6_18
theorem zlw {c : Nat} (h : c < 7) : ∀ w ∈ u_ws (zRR c) (zTT c) (zNF c), w ∈ zbw := by
  rcases (show c = 0 ∨ c = 1 ∨ c = 2 ∨ c = 3 ∨ c = 4 ∨ c = 5 ∨ c = 6 by omega) with rfl | rfl | rfl | rfl | rfl | rfl | rfl
  · exact zlw0
  · exact zlw1
  · exact zlw2
  · exact zlw3
  · exact zlw4
  · exact zlw5
  · exact zlw6
theorem zYY_ok {c : Nat} (h : c < 7) : ∀ k, k < zNF c → parseFieldDescriptor (zTT c k).2.2.1 = some (zYY c k) := by
  rcases (show c = 0 ∨ c = 1 ∨ c = 2 ∨ c = 3 ∨ c = 4 ∨ c = 5 ∨ c = 6 by omega) with rfl | rfl | rfl | rfl | rfl | rfl | rfl
  · exact zY0_ok
  · exact zY1_ok
  · exact zY2_ok
  · exact zY3_ok
  · exact zY4_ok
  · exact zY5_ok
  · exact zY6_ok
theorem zNN {c : Nat} (h : c < 7) : ∀ a, a < zNF c → ∀ b, b < zNF c → a ≠ b → (zTT c a).2.1 ≠ (zTT c b).2.1 := by
  rcases (show c = 0 ∨ c = 1 ∨ c = 2 ∨ c = 3 ∨ c = 4 ∨ c = 5 ∨ c = 6 by omega) with rfl | rfl | rfl | rfl | rfl | rfl | rfl
  · exact zN0
  · exact zN1
  · exact zN2
  · exact zN3
  · exact zN4
  · exact zN5
  · exact zN6
/-- the shape of the heap: of the cell at each place its kind (a class, 7 chars, 8 ints, 9 states) and its length -/
def zSl : List (Nat × Nat) := [(5, 6), (4, 8), (8, 8), (8, 8), (8, 8), (8, 4), (1, 4), (8, 28), (8, 28), (8, 28), (4, 8), (8, 8), (8, 8), (8, 8), (8, 4), (1, 4), (8, 28), (8, 28), (8, 28), (2, 3), (9, 4), (4, 8), (8, 8), (8, 8), (8, 8), (8, 4), (1, 4), (8, 28), (8, 28), (8, 28), (4, 8), (8, 8), (8, 8), (8, 8), (8, 4), (1, 4), (8, 28), (8, 28), (8, 28), (4, 8), (8, 8), (8, 8), (8, 8), (8, 4), (1, 4), (8, 28), (8, 28), (8, 28), (4, 8), (8, 8), (8, 8), (8, 8), (8, 4), (1, 4), (8, 28), (8, 28), (8, 28), (0, 6), (7, 60), (8, 16), (8, 16), (8, 16), (3, 7), (4, 8), (8, 8), (8, 8), (8, 8), (8, 4), (1, 4), (8, 28), (8, 28), (8, 28), (8, 8), (8, 8), (8, 8), (8, 8), (6, 19), (8, 150), (8, 600), (8, 150), (8, 8), (8, 8), (8, 8), (7, 60)]
def zSk (k : Nat) : Nat := (zSl.getD k (99, 0)).1
def zSn (k : Nat) : Nat := (zSl.getD k (99, 0)).2
/-- where its references go -/
def zHl : List (List Nat) := [[1, 10, 0, 19, 57, 62], [0, 0, 0, 2, 3, 4, 5, 6], [], [], [], [], [0, 7, 8, 9], [], [], [], [0, 0, 0, 11, 12, 13, 14, 15], [], [], [], [], [0, 16, 17, 18], [], [], [], [0, 0, 20], [21, 30, 39, 48], [0, 0, 0, 22, 23, 24, 25, 26], [], [], [], [], [0, 27, 28, 29], [], [], [], [0, 0, 0, 31, 32, 33, 34, 35], [], [], [], [], [0, 36, 37, 38], [], [], [], [0, 0, 0, 40, 41, 42, 43, 44], [], [], [], [], [0, 45, 46, 47], [], [], [], [0, 0, 0, 49, 50, 51, 52, 53], [], [], [], [], [0, 54, 55, 56], [], [], [], [0, 58, 0, 59, 60, 61], [], [], [], [], [63, 72, 73, 74, 75, 0, 0], [0, 0, 0, 64, 65, 66, 67, 68], [], [], [], [], [0, 69, 70, 71], [], [], [], [], [], [], [], [77, 78, 0, 79, 0, 80, 81, 82, 0, 0, 0, 0, 0, 0, 83, 0, 0, 0, 0], [], [], [], [], [], [], []]
def zHR (k j : Nat) : Nat := (zHl.getD k []).getD j 0
theorem zSk_lt {k c : Nat} (h : zSk k = c) (hc : c < 99) : k < 84 := by
  rcases Nat.lt_or_ge k 84 with q | q
  · exact q
  · have h1 : zSl[k]? = none := List.getElem?_eq_none q
    have h2 : zSk k = 99 := by simp only [zSk, List.getD_eq_getElem?_getD, h1]; rfl
    omega
theorem zSk_nf : ∀ k, k < 84 → zSk k < 7 → zSn k = zNF (zSk k) := by decide +kernel
def zFT (c k : Nat) : Nat := match zYY c k with
  | .int => 0
  | .boolean => 1
  | _ => 2
end
section
/-! A small machine of our own: places instead of addresses, whole numbers in rows of the heap, the code as a list; what it answers is a function. -/
abbrev zV : Type := Int32 ⊕ Nat
abbrev zLs : Type := List (Option zV)
abbrev zHp : Type := Nat → Nat → Int32
abbrev zRs : Type := Option (Option Int32 × zHp)
abbrev zOr : Type := Nat → List zV → zHp → zRs
/-- an instruction: its place, itself, its length, a number, and three more -/
abbrev zE : Type := Nat × Instr × Nat × Int32 × Nat × Nat × Nat
abbrev zN : Type := Nat × zLs × List zV × zHp
abbrev zD : Type := Option ((Bool × Option Int32) ⊕ ((Bool × Nat × List zV × Nat × zLs × List zV) ⊕ (Bool × Option zN × Option zN)))
abbrev zSc : Type := Nat × (Nat → Int32)
def zlook : List zE → Nat → Option zE
  | [], _ => none
  | q :: t, pc => if Nat.beq q.1 pc then some q else zlook t pc
def znth : zLs → Nat → Option (Option zV)
  | [], _ => none
  | a :: _, 0 => some a
  | _ :: t, i + 1 => znth t i
def zset : zLs → Nat → Option zV → zLs
  | [], _, _ => []
  | _ :: t, 0, x => x :: t
  | a :: t, i + 1, x => a :: zset t i x
def zup (h : zHp) (a k : Nat) (x : Int32) : zHp := fun b j => if b = a ∧ j = k then x else h b j
def zcp (h : zHp) (s d sp dp n : Nat) : zHp := fun b j => if b = d then va_cpy (h s) (h d) sp dp n j else h b j
def zib (i : Int32) (n : Nat) : Bool := !(decide (i < 0) || Nat.ble n i.toNatClampNeg)
def zgo (n : zN) : zD := some (.inr (.inr (true, some n, none)))
def zif (b : Bool) (n : zN) : zD := some (.inr (.inr (b, some n, none)))
def zbr (b : Bool) (n1 n2 : zN) : zD := some (.inr (.inr (b, some n1, some n2)))
def zldI (ls : zLs) (k pc : Nat) (st : List zV) (h : zHp) : zD := match znth ls k with
  | some (some (.inl x)) => zgo (pc, ls, .inl x :: st, h)
  | _ => none
def zldA (ls : zLs) (k pc : Nat) (st : List zV) (h : zHp) : zD := match znth ls k with
  | some (some (.inr x)) => zgo (pc, ls, .inr x :: st, h)
  | _ => none
def zstI (ls : zLs) (k pc : Nat) (st : List zV) (h : zHp) : zD := match st with
  | .inl x :: r => zif (Nat.blt k ls.length) (pc, zset ls k (some (.inl x)), r, h)
  | _ => none
def zinc (ls : zLs) (k pc : Nat) (v : Int32) (st : List zV) (h : zHp) : zD := match znth ls k with
  | some (some (.inl x)) => zif (Nat.blt k ls.length) (pc, zset ls k (some (.inl (x + v))), st, h)
  | _ => none
def zop (f : Int32 → Int32 → Int32) (pc : Nat) (ls : zLs) (st : List zV) (h : zHp) : zD := match st with
  | .inl y :: .inl x :: r => zgo (pc, ls, .inl (f x y) :: r, h)
  | _ => none
def zdv (f : Int32 → Int32 → Int32) (pc : Nat) (ls : zLs) (st : List zV) (h : zHp) : zD := match st with
  | .inl y :: .inl x :: r => zif (!decide (y = 0)) (pc, ls, .inl (f x y) :: r, h)
  | _ => none
def zci (c : ClassFile.Cond) (x y : Int32) : Bool := match c with
  | .eq => decide (x = y)
  | .ne => !decide (x = y)
  | .lt => decide (x < y)
  | .ge => decide (y ≤ x)
  | .gt => decide (y < x)
  | .le => decide (x ≤ y)
def zcv (r : List zV) (j n pc : Nat) (mci : Nat → Nat) (ls : zLs) : List zV → zD
  | .inr o :: rest => some (.inr (.inl (Nat.beq (zSk o) (mci j) && Nat.beq r.length n && Nat.ble rest.length 8, j, .inr o :: r.reverse, pc, ls, rest)))
  | _ => none
def zstp (mci : Nat → Nat) (rb : Bool) (scr : zSc) (q : zE) (ls : zLs) (st : List zV) (h : zHp) : zD :=
  match q with
  | (pc, ins, len, v, t, a, b) => match ins with
    | .iload_n k => zldI ls k (pc + 1) st h
    | .iload k => zldI ls k (pc + 2) st h
    | .aload_n k => zldA ls k (pc + 1) st h
    | .istore_n k => zstI ls k (pc + 1) st h
    | .istore k => zstI ls k (pc + 2) st h
    | .iinc k _ => zinc ls k (pc + 3) v st h
    | .iconst _ => zgo (pc + 1, ls, .inl v :: st, h)
    | .bipush _ => zgo (pc + 2, ls, .inl v :: st, h)
    | .sipush _ => zgo (pc + 3, ls, .inl v :: st, h)
    | .ldc_w _ => zgo (pc + 3, ls, .inl v :: st, h)
    | .iadd => zop (fun x y => x + y) (pc + 1) ls st h
    | .isub => zop (fun x y => x - y) (pc + 1) ls st h
    | .imul => zop (fun x y => x * y) (pc + 1) ls st h
    | .iand => zop (fun x y => x &&& y) (pc + 1) ls st h
    | .ior => zop (fun x y => x ||| y) (pc + 1) ls st h
    | .ixor => zop (fun x y => x ^^^ y) (pc + 1) ls st h
    | .ishl => zop (fun x y => x <<< (y &&& 31)) (pc + 1) ls st h
    | .ishr => zop (fun x y => x >>> (y &&& 31)) (pc + 1) ls st h
    | .iushr => zop (fun x y => (x.toUInt32 >>> (y.toUInt32 &&& Int32.toUInt32 31)).toInt32) (pc + 1) ls st h
    | .idiv => zdv (fun x y => x / y) (pc + 1) ls st h
    | .irem => zdv (fun x y => x - x / y * y) (pc + 1) ls st h
    | .i2c => match st with
      | .inl x :: r => zgo (pc + 1, ls, .inl ((x.toUInt32 % 65536).toInt32) :: r, h)
      | _ => none
    | .if_icmp c _ => match st with
      | .inl y :: .inl x :: r => zbr (zci c x y) (t, ls, r, h) (pc + 3, ls, r, h)
      | _ => none
    | .ifCond c _ => match st with
      | .inl x :: r => zbr (zci c x 0) (t, ls, r, h) (pc + 3, ls, r, h)
      | _ => none
    | .goto _ => zgo (t, ls, st, h)
    | .tableswitch d lo hi offs => match st with
      | .inl x :: r => some (.inr (.inr (decide (x.toInt < lo) || decide (hi < x.toInt), some (t, ls, r, h), match offs[(x.toInt - lo).toNat]? with
        | some off => if 0 ≤ (pc : Int) + off then some (((pc : Int) + off).toNat, ls, r, h) else none
        | none => none)))
      | _ => none
    | .dup => match st with
      | x :: r => zgo (pc + 1, ls, x :: x :: r, h)
      | _ => none
    | .dup2 => match st with
      | x :: y :: r => zgo (pc + 1, ls, x :: y :: x :: y :: r, h)
      | _ => none
    | .pop => match st with
      | _ :: r => zgo (pc + 1, ls, r, h)
      | _ => none
    | .getfield _ => match st with
      | .inr o :: r => zif (Nat.beq (zSk o) a) (pc + 3, ls, (if Nat.beq (zFT a b) 2 then .inr (zHR o b) else .inl (h o b)) :: r, h)
      | _ => none
    | .putfield _ => match st with
      | .inl x :: .inr o :: r => zif (Nat.beq (zSk o) a && (Nat.beq (zFT a b) 0 || (decide (x = 0) || decide (x = 1)))) (pc + 3, ls, r, zup h o b x)
      | _ => none
    | .iaload => match st with
      | .inl i :: .inr o :: r => if Nat.beq t 1 then zif (Nat.beq o 84 && zib i scr.1) (pc + 1, ls, .inl (scr.2 i.toNatClampNeg) :: r, h) else zif (Nat.beq (zSk o) 8 && zib i (zSn o)) (pc + 1, ls, .inl (h o i.toNatClampNeg) :: r, h)
      | _ => none
    | .caload => match st with
      | .inl i :: .inr o :: r => zif (Nat.beq (zSk o) 7 && zib i (zSn o)) (pc + 1, ls, .inl (h o i.toNatClampNeg) :: r, h)
      | _ => none
    | .aaload => match st with
      | .inl i :: .inr o :: r => zif (Nat.beq (zSk o) 9 && zib i (zSn o)) (pc + 1, ls, .inr (zHR o i.toNatClampNeg) :: r, h)
      | _ => none
    | .iastore => match st with
      | .inl x :: .inl i :: .inr o :: r => zif (Nat.beq (zSk o) 8 && zib i (zSn o)) (pc + 1, ls, r, zup h o i.toNatClampNeg x)
      | _ => none
    | .castore => match st with
      | .inl x :: .inl i :: .inr o :: r => zif (Nat.beq (zSk o) 7 && zib i (zSn o)) (pc + 1, ls, r, zup h o i.toNatClampNeg (vp_nar .char x))
      | _ => none
    | .arraylength => match st with
      | .inr o :: r => zif (Nat.beq t 1 && Nat.beq o 84) (pc + 1, ls, .inl (Int32.ofNat scr.1) :: r, h)
      | _ => none
    | .ireturn => match st with
      | [.inl x] => some (.inl (!rb || (decide (x = 0) || decide (x = 1)), some x))
      | _ => none
    | .return_ => match st with
      | [] => some (.inl (true, none))
      | _ => none
    | .invokevirtual _ => zcv (st.take b) a b (pc + 3) mci ls (st.drop b)
    | .invokestatic _ => match t with
      | 3 => match st with
        | .inl y :: .inl x :: r => zif (Nat.ble r.length 8) (pc + 3, ls, .inl (if y < x then y else x) :: r, h)
        | _ => none
      | 4 => match st with
        | .inl y :: .inl x :: r => zif (Nat.ble r.length 8) (pc + 3, ls, .inl (if x < y then y else x) :: r, h)
        | _ => none
      | 5 => match st with
        | .inl n :: .inl dp :: .inr d :: .inl sp :: .inr s :: r => zif (Nat.beq (zSk s) 8 && Nat.beq (zSk d) 8 && (!decide (sp < 0) && !decide (dp < 0) && !decide (n < 0)) && Nat.ble (sp.toNatClampNeg + n.toNatClampNeg) (zSn s) && Nat.ble (dp.toNatClampNeg + n.toNatClampNeg) (zSn d) && Nat.ble r.length 8) (pc + 3, ls, r, zcp h s d sp.toNatClampNeg dp.toNatClampNeg n.toNatClampNeg)
        | _ => none
      | _ => some (.inr (.inl (Nat.beq (st.take b).length b && Nat.ble (st.drop b).length 8, a, (st.take b).reverse, pc + 3, ls, st.drop b)))
    | _ => none
def zpush (v : Option Int32) (st : List zV) : List zV := match v with
  | some x => .inl x :: st
  | none => st
/-- the run of a code from a place on -/
def zrun (mci : Nat → Nat) (code : List zE) (rb : Bool) (scr : zSc) (orc : zOr) (pc : Nat) (ls : zLs) (st : List zV) (h : zHp) : zRs :=
  match zlook code pc with
  | none => none
  | some q => match zstp mci rb scr q ls st h with
    | none => none
    | some (.inl (b, v)) => if b = true then some (v, h) else none
    | some (.inr (.inl (b, j, as, pc', ls', rest))) => if b = true then (orc j as h) >>= (fun r => zrun mci code rb scr orc pc' ls' (zpush r.1 rest) r.2) else none
    | some (.inr (.inr (b, n1, n2))) => if b = true then (match n1 with
        | none => none
        | some n => zrun mci code rb scr orc n.1 n.2.1 n.2.2.1 n.2.2.2) else (match n2 with
        | none => none
        | some n => zrun mci code rb scr orc n.1 n.2.1 n.2.2.1 n.2.2.2)
partial_fixpoint
/-- one step, and then what 'K' says -/
def zone (mci : Nat → Nat) (code : List zE) (rb : Bool) (scr : zSc) (orc : zOr) (K : Nat → zLs → List zV → zHp → zRs) (pc : Nat) (ls : zLs) (st : List zV) (h : zHp) : zRs :=
  match zlook code pc with
  | none => none
  | some q => match zstp mci rb scr q ls st h with
    | none => none
    | some (.inl (b, v)) => if b = true then some (v, h) else none
    | some (.inr (.inl (b, j, as, pc', ls', rest))) => if b = true then (orc j as h).bind (fun r => K pc' ls' (zpush r.1 rest) r.2) else none
    | some (.inr (.inr (b, n1, n2))) => if b = true then (match n1 with
        | none => none
        | some n => K n.1 n.2.1 n.2.2.1 n.2.2.2) else (match n2 with
        | none => none
        | some n => K n.1 n.2.1 n.2.2.1 n.2.2.2)
/-- some steps, but none through the places 'cut', and then the run -/
def zgos (mci : Nat → Nat) (code : List zE) (rb : Bool) (scr : zSc) (orc : zOr) (cut : List Nat) : Nat → Nat → zLs → List zV → zHp → zRs
  | 0 => zrun mci code rb scr orc
  | n + 1 => fun pc ls st h => if cut.elem pc then zrun mci code rb scr orc pc ls st h else zone mci code rb scr orc (zgos mci code rb scr orc cut n) pc ls st h
theorem zrun_one (mci : Nat → Nat) (code : List zE) (rb : Bool) (scr : zSc) (orc : zOr) : zrun mci code rb scr orc = zone mci code rb scr orc (zrun mci code rb scr orc) := by
  funext pc ls st h
  rw [zrun.eq_1]
  rfl
theorem zgos_eq (mci : Nat → Nat) (code : List zE) (rb : Bool) (scr : zSc) (orc : zOr) (cut : List Nat) : ∀ n, zgos mci code rb scr orc cut n = zrun mci code rb scr orc := by
  intro n
  induction n with
  | zero => rfl
  | succ n ih =>
    funext pc ls st h
    show (if cut.elem pc then zrun mci code rb scr orc pc ls st h else zone mci code rb scr orc (zgos mci code rb scr orc cut n) pc ls st h) = _
    rw [ih]
    split
    · rfl
    · exact (congrFun (congrFun (congrFun (congrFun (zrun_one mci code rb scr orc) pc) ls) st) h).symm
/-- from a place on: the first step is made in any case -/
theorem zrun_go (mci : Nat → Nat) (code : List zE) (rb : Bool) (scr : zSc) (orc : zOr) (cut : List Nat) (n : Nat) (pc : Nat) (ls : zLs) (st : List zV) (h : zHp) : zrun mci code rb scr orc pc ls st h = zone mci code rb scr orc (zgos mci code rb scr orc cut n) pc ls st h := by
  rw [zgos_eq]
  exact congrFun (congrFun (congrFun (congrFun (zrun_one mci code rb scr orc) pc) ls) st) h
end
section
/-! The small machine's heap as the kit's world, its frames as the machine's frames. -/
def ztr (ad : Nat → Nat) : zV → Value
  | .inl x => .int x
  | .inr k => .ref (ad k)
def zfs (ad : Nat → Nat) (h : zHp) (c k : Nat) : List Value := (List.range (zNF c)).map (fun j => if Nat.beq (zFT c j) 2 then .ref (ad (zHR k j)) else .int (h k j))
def zent (ad : Nat → Nat) (cI cC cS : ClassId) (h : zHp) (k : Nat) : va_E := match zSk k with
  | 7 => .inl (cC, zSn k, .inl (h k))
  | 8 => .inl (cI, zSn k, .inl (h k))
  | 9 => .inl (cS, zSn k, .inr (.inr (.inr (.inr (fun j => some (ad (zHR k j)))))))
  | c => .inr (c, zfs ad h c k)
def zWS (ad : Nat → Nat) (cI cC cS : ClassId) (h : zHp) : va_W := (List.range 84).map (fun k => (ad k, zent ad cI cC cS h k))
def zAD (ad : Nat → Nat) : Nat → Prop := fun q => ∃ k : Nat, k < 84 ∧ q = ad k
abbrev zty (cI cC cS : ClassId) : List (ClassId × FieldType) := [(cI, .int), (cC, .char), (cS, .object "BorderPaints$State")]
def zNL : List (String × Nat × MethodName × String) := [("BorderPaints$State", 51, ⟨"BorderPaints", "isNumber", "(I)Z"⟩, "BorderPaints"), ("BorderPaints$State", 55, ⟨"BorderPaints", "has", "(II)Z"⟩, "BorderPaints"), ("BorderPaints$Repainter", 63, ⟨"BorderPaints", "has", "(II)Z"⟩, "BorderPaints")]
def zNE (U : State) : Prop := ∀ n ∈ zNL, va_Nw (.methodLinkNest n.1 n.2.1 n.2.2.1 n.2.2.2) U
def zWD (dC : Nat → ClassId) (dI : Nat → Nat → Nat) (ad : Nat → Nat) (cI cC cS : ClassId) (h : zHp) (U : State) : Prop :=
  va_P (dC, dI) zCl (zWS ad cI cC cS h) U.heap ∧ va_K (dC, dI) zCl (zty cI cC cS) U ∧ zNE U
/-- the addresses are apart -/
def zap (ad : Nat → Nat) : Prop := ∀ i j : Nat, i < 84 → j < 84 → ad i = ad j → i = j
theorem zWS_at {ad : Nat → Nat} {cI cC cS : ClassId} {h : zHp} {k : Nat} (hk : k < 84) : (zWS ad cI cC cS h)[k]? = some (ad k, zent ad cI cC cS h k) := by
  simp [zWS, hk]
theorem zWS_inv {ad : Nat → Nat} {cI cC cS : ClassId} {h : zHp} {k : Nat} {q : Nat × va_E} (hq : (zWS ad cI cC cS h)[k]? = some q) : k < 84 ∧ q = (ad k, zent ad cI cC cS h k) := by
  have h1 : k < 84 := by
    have h2 := (List.getElem?_eq_some_iff.mp hq).1
    simpa [zWS] using h2
  refine ⟨h1, ?_⟩
  rw [zWS_at h1] at hq
  exact (Option.some.inj hq).symm
theorem zWS_D {ad : Nat → Nat} {cI cC cS : ClassId} {A : Nat → Prop} (ha : zap ad) (hA : ∀ k, k < 84 → A (ad k)) (h : zHp) : va_D A (zWS ad cI cC cS h) := by
  refine ⟨fun i j p q hi hj hpq => ?_, fun k q hk => ?_⟩
  · obtain ⟨h1, rfl⟩ := zWS_inv hi
    obtain ⟨h2, rfl⟩ := zWS_inv hj
    exact ha i j h1 h2 hpq
  · obtain ⟨h1, rfl⟩ := zWS_inv hk
    exact hA k h1
theorem zent_congr {ad : Nat → Nat} {cI cC cS : ClassId} {h h' : zHp} {k : Nat} (hk : h' k = h k) : zent ad cI cC cS h' k = zent ad cI cC cS h k := by
  simp only [zent, zfs, hk]
theorem zWS_set {ad : Nat → Nat} {cI cC cS : ClassId} {h h' : zHp} {k : Nat} {e : va_E} (he : zent ad cI cC cS h' k = e) (ho : ∀ i, i ≠ k → h' i = h i) : (zWS ad cI cC cS h).set k (ad k, e) = zWS ad cI cC cS h' := by
  apply List.ext_getElem?
  intro i
  by_cases hi : i < 84
  · by_cases hk : i = k
    · subst hk
      rw [zWS_at hi, List.getElem?_set_self (by simp [zWS, hi]), he]
    · rw [zWS_at hi, List.getElem?_set_ne (fun e => hk e.symm), zWS_at hi, zent_congr (ho i hk)]
  · rw [List.getElem?_eq_none (by simp [zWS]; omega), List.getElem?_eq_none (by simp [zWS]; omega)]
theorem zent_obj {ad : Nat → Nat} {cI cC cS : ClassId} {h : zHp} {k c : Nat} (hk : zSk k = c) (hc : c < 7) : zent ad cI cC cS h k = .inr (c, zfs ad h c k) := by
  unfold zent
  rw [hk]
  rcases (show c = 0 ∨ c = 1 ∨ c = 2 ∨ c = 3 ∨ c = 4 ∨ c = 5 ∨ c = 6 by omega) with rfl | rfl | rfl | rfl | rfl | rfl | rfl <;> rfl
theorem zent_char {ad : Nat → Nat} {cI cC cS : ClassId} {h : zHp} {k : Nat} (hk : zSk k = 7) : zent ad cI cC cS h k = .inl (cC, zSn k, .inl (h k)) := by
  unfold zent
  rw [hk]
  rfl
theorem zent_int {ad : Nat → Nat} {cI cC cS : ClassId} {h : zHp} {k : Nat} (hk : zSk k = 8) : zent ad cI cC cS h k = .inl (cI, zSn k, .inl (h k)) := by
  unfold zent
  rw [hk]
  rfl
theorem zent_sts {ad : Nat → Nat} {cI cC cS : ClassId} {h : zHp} {k : Nat} (hk : zSk k = 9) : zent ad cI cC cS h k = .inl (cS, zSn k, .inr (.inr (.inr (.inr (fun j => some (ad (zHR k j))))))) := by
  unfold zent
  rw [hk]
  rfl
theorem zfs_len {ad : Nat → Nat} {h : zHp} {c k : Nat} : (zfs ad h c k).length = zNF c := by simp [zfs]
theorem zfs_at {ad : Nat → Nat} {h : zHp} {c k j : Nat} (hj : j < zNF c) : (zfs ad h c k)[j]? = some (ztr ad (if Nat.beq (zFT c j) 2 then .inr (zHR k j) else .inl (h k j))) := by
  simp only [zfs, List.getElem?_map, List.getElem?_range hj, Option.map_some]
  split <;> rfl
theorem zup_ne {h : zHp} {a k : Nat} {x : Int32} {b : Nat} (hb : b ≠ a) : zup h a k x b = h b := by
  funext j
  simp [zup, hb]
theorem zup_row {h : zHp} {a k : Nat} {x : Int32} : zup h a k x a = upd (h a) k x := by
  funext j
  simp [zup, upd]
theorem zfs_set {ad : Nat → Nat} {h : zHp} {c k j : Nat} {x : Int32} (hj : j < zNF c) (hf : Nat.beq (zFT c j) 2 = false) : (zfs ad h c k).set j (.int x) = zfs ad (zup h k j x) c k := by
  apply List.ext_getElem?
  intro i
  by_cases hi : i < zNF c
  · by_cases hij : i = j
    · subst hij
      rw [List.getElem?_set_self (by rw [zfs_len]; exact hi), zfs_at hi, hf]
      simp [ztr, zup]
    · rw [List.getElem?_set_ne (fun e => hij e.symm), zfs_at hi, zfs_at hi]
      simp [zup, hij]
  · rw [List.getElem?_eq_none (by simp [zfs_len]; omega), List.getElem?_eq_none (by simp [zfs_len]; omega)]
def zll (ad : Nat → Nat) : Nat → zLs → List (Nat × Value)
  | _, [] => []
  | i, none :: t => zll ad (i + 1) t
  | i, some v :: t => (i, ztr ad v) :: zll ad (i + 1) t
theorem zll_mem {ad : Nat → Nat} {v : zV} : ∀ (ls : zLs) (i k : Nat), znth ls k = some (some v) → (i + k, ztr ad v) ∈ zll ad i ls := by
  intro ls
  induction ls with
  | nil => intro i k h; cases h
  | cons a t ih =>
    intro i k h
    cases k with
    | zero =>
      have h : a = some v := Option.some.inj h
      subst h
      exact List.mem_cons_self
    | succ k =>
      have h1 := ih (i + 1) k h
      rw [show i + 1 + k = i + (k + 1) by omega] at h1
      cases a with
      | none => exact h1
      | some w => exact List.mem_cons_of_mem _ h1
theorem zll_inv {ad : Nat → Nat} : ∀ (ls : zLs) (i : Nat) (q : Nat × Value), q ∈ zll ad i ls → ∃ (k : Nat) (v : zV), q = (i + k, ztr ad v) ∧ znth ls k = some (some v) := by
  intro ls
  induction ls with
  | nil => intro i q h; cases h
  | cons a t ih =>
    intro i q h
    have up : q ∈ zll ad (i + 1) t → ∃ (k : Nat) (v : zV), q = (i + k, ztr ad v) ∧ znth (a :: t) k = some (some v) := by
      intro h1
      obtain ⟨k, v, h2, h3⟩ := ih (i + 1) q h1
      exact ⟨k + 1, v, by rw [h2, show i + 1 + k = i + (k + 1) by omega], h3⟩
    cases a with
    | none => exact up h
    | some w =>
      rcases List.mem_cons.mp h with h | h
      · exact ⟨0, w, h, rfl⟩
      · exact up h
theorem znth_set : ∀ (ls : zLs) (k j : Nat) (x : Option zV), znth (zset ls k x) j = if j = k ∧ k < ls.length then some x else znth ls j := by
  intro ls
  induction ls with
  | nil => intro k j x; simp [zset]
  | cons a t ih =>
    intro k j x
    cases k with
    | zero =>
      cases j with
      | zero => simp [zset, znth]
      | succ j => simp [zset, znth]
    | succ k =>
      cases j with
      | zero => simp [zset, znth]
      | succ j => simp [zset, znth, ih]
theorem zset_len : ∀ (ls : zLs) (k : Nat) (x : Option zV), (zset ls k x).length = ls.length := by
  intro ls
  induction ls with
  | nil => intro k x; rfl
  | cons a t ih =>
    intro k x
    cases k with
    | zero => rfl
    | succ k => simp [zset, ih]
/-- the machine's locals hold the small machine's -/
def zLR (ad : Nat → Nat) (lj : Array Slot) (nL : Nat) (ls : zLs) : Prop := ls.length = nL ∧ lv_has lj nL (zll ad 0 ls)
theorem ztr_cat (ad : Nat → Nat) (v : zV) : (ztr ad v).category = 1 := by cases v <;> rfl
theorem zLR_get {ad : Nat → Nat} {lj : Array Slot} {nL : Nat} {ls : zLs} {k : Nat} {v : zV} (h : zLR ad lj nL ls) (hk : znth ls k = some (some v)) : lj[k]? = some (.val (ztr ad v)) := by
  have h1 := zll_mem (ad := ad) ls 0 k hk
  rw [Nat.zero_add] at h1
  exact h.2.2.2 _ h1
theorem zLR_set {ad : Nat → Nat} {lj lj' : Array Slot} {nL : Nat} {ls : zLs} {k : Nat} {v : zV} (hn : ls.length = nL) (hk : k < nL)
    (h : lv_has lj' nL ((k, ztr ad v) :: (zll ad 0 ls).filter (fun q => !(q.1 == k) && !(q.1 + 1 == k && q.2.category == 2)))) : zLR ad lj' nL (zset ls k (some v)) := by
  refine ⟨by rw [zset_len]; exact hn, h.1, h.2.1, fun q hq => ?_⟩
  obtain ⟨j, w, rfl, hw⟩ := zll_inv _ _ _ hq
  rw [Nat.zero_add]
  rw [znth_set] at hw
  by_cases hj : j = k
  · subst hj
    rw [if_pos ⟨rfl, by omega⟩] at hw
    cases hw
    exact h.2.2 _ List.mem_cons_self
  · rw [if_neg (fun e => hj e.1)] at hw
    have h1 := zll_mem (ad := ad) ls 0 j hw
    rw [Nat.zero_add] at h1
    refine h.2.2 (j, ztr ad w) (List.mem_cons_of_mem _ (List.mem_filter.mpr ⟨h1, ?_⟩))
    have h2 : (ztr ad w).category = 1 := ztr_cat ad w
    simp [hj, h2]
theorem zcat_sum (ad : Nat → Nat) (st : List zV) : ((st.map (ztr ad)).map fun v => v.category).sum = st.length := by
  induction st with
  | nil => rfl
  | cons a t ih => simp only [List.map_cons, List.sum_cons, ih, ztr_cat, List.length_cons]; omega
theorem zlook_mem : ∀ (code : List zE) (pc : Nat) (q : zE), zlook code pc = some q → q ∈ code ∧ q.1 = pc := by
  intro code
  induction code with
  | nil => intro pc q h; cases h
  | cons a t ih =>
    intro pc q h
    unfold zlook at h
    by_cases hb : Nat.beq a.1 pc = true
    · rw [if_pos hb] at h
      cases h
      exact ⟨List.mem_cons_self, Nat.eq_of_beq_eq_true hb⟩
    · rw [if_neg hb] at h
      obtain ⟨h1, h2⟩ := ih pc q h
      exact ⟨List.mem_cons_of_mem _ h1, h2⟩
end
section
/-! The small machine's run is the machine's. -/
def zlen (n : Nat) : Instr → Nat
  | .iload_n _ => 1
  | .iload _ => 2
  | .aload_n _ => 1
  | .istore_n _ => 1
  | .istore _ => 2
  | .iinc _ _ => 3
  | .iconst _ => 1
  | .bipush _ => 2
  | .sipush _ => 3
  | .ldc_w _ => 3
  | .iadd => 1
  | .isub => 1
  | .imul => 1
  | .iand => 1
  | .ior => 1
  | .ixor => 1
  | .ishl => 1
  | .ishr => 1
  | .iushr => 1
  | .idiv => 1
  | .irem => 1
  | .i2c => 1
  | .if_icmp _ _ => 3
  | .ifCond _ _ => 3
  | .goto _ => 3
  | .dup => 1
  | .dup2 => 1
  | .pop => 1
  | .getfield _ => 3
  | .putfield _ => 3
  | .iaload => 1
  | .caload => 1
  | .aaload => 1
  | .iastore => 1
  | .castore => 1
  | .arraylength => 1
  | .ireturn => 1
  | .return_ => 1
  | .invokevirtual _ => 3
  | .invokestatic _ => 3
  | _ => n
/-- what a call wants of the tables: the callee's own words -/
def zcl (y : MethodName) (b : ByteArray) (ml : Nat) (rt : Option FieldType) (n : Nat) : Prop :=
  Jvm.Cond.initialized y.cls ∈ zbw ∧ Jvm.Cond.code y b ml rt ∈ zbw ∧ (y.cls ≠ "java/lang/invoke/MethodHandle" ∧ y.cls ≠ "java/lang/invoke/VarHandle" ∧ (parseMethodDescriptor y.desc).map (fun d => d.parameters.length) = some n) ∧ ml ≤ 40
/-- the same, and how its answer comes -/
def zOK (yM : Nat → MethodName) (bM : Nat → ByteArray) (lM : Nat → Nat) (tM : Nat → Option FieldType) (mci : Nat → Nat) (i : Nat) (own : String) (sf : Bool) (q : zE) : Prop :=
  match q with
  | (pc, ins, _, v, t, a, b) => match ins with
    | .iconst n => Int32.ofInt n = v
    | .bipush n => (Int8.ofInt n).toInt32 = v
    | .sipush n => (Int16.ofInt n).toInt32 = v
    | .ldc_w x => Jvm.Cond.constant own x v ∈ zbw
    | .iinc _ n => Int32.ofInt n = v
    | .if_icmp _ off => (pc : Int) + off = (t : Int)
    | .ifCond _ off => (pc : Int) + off = (t : Int)
    | .goto off => (pc : Int) + off = (t : Int)
    | .tableswitch d _ _ _ => (pc : Int) + d = (t : Int)
    | .getfield x => a < 7 ∧ b < zNF a ∧ Jvm.Cond.fieldLink own x (zTT a b).1 (zTT a b).2.1 (zTT a b).2.2.1 ∈ zbw
    | .putfield x => a < 7 ∧ b < zNF a ∧ Jvm.Cond.fieldLink own x (zTT a b).1 (zTT a b).2.1 (zTT a b).2.2.1 ∈ zbw ∧ (zTT a b).2.2.2 = false
    | .iaload => t = 0 ∨ (t = 1 ∧ sf = true)
    | .arraylength => sf = true
    | .ireturn => (tM i).isSome = true
    | .return_ => tM i = none
    | .invokevirtual x => a < i ∧ mci a < 7 ∧ (yM a).cls = zRR (mci a) ∧ zcl (yM a) (bM a) (lM a) (tM a) b ∧ Jvm.Cond.methodLink own x (yM a) ∈ zbw ∧ Jvm.Cond.instanceMethod (yM a) ∈ zbw ∧ Jvm.Cond.selects (yM a).cls (yM a) (yM a) ∈ zbw
    | .invokestatic x => (t = 3 ∧ Jvm.Cond.methodLink own x Lib.Math.min.name ∈ zbw ∧ Jvm.Cond.static Lib.Math.min.name ∈ zbw ∧ Jvm.Cond.initialized "java/lang/Math" ∈ zbw ∧ Jvm.Cond.code Lib.Math.min.name Lib.Math.min.code 2 (some .int) ∈ zbw) ∨
      (t = 4 ∧ Jvm.Cond.methodLink own x Lib.Math.max.name ∈ zbw ∧ Jvm.Cond.static Lib.Math.max.name ∈ zbw ∧ Jvm.Cond.initialized "java/lang/Math" ∈ zbw ∧ Jvm.Cond.code Lib.Math.max.name Lib.Math.max.code 2 (some .int) ∈ zbw) ∨
      (t = 5 ∧ Jvm.Cond.methodLink own x arraycopyName ∈ zbw ∧ Jvm.Cond.native arraycopyName ∈ zbw ∧ Jvm.Cond.static arraycopyName ∈ zbw ∧ Jvm.Cond.initialized "java/lang/System" ∈ zbw) ∨
      (t = 1 ∧ a < i ∧ zcl (yM a) (bM a) (lM a) (tM a) b ∧ Jvm.Cond.static (yM a) ∈ zbw ∧ Jvm.Cond.methodLink own x (yM a) ∈ zbw) ∨
      (t = 2 ∧ a < i ∧ zcl (yM a) (bM a) (lM a) (tM a) b ∧ Jvm.Cond.static (yM a) ∈ zbw ∧ ∃ h, (own, x, yM a, h) ∈ zNL)
    | _ => True
def zwsM (yM : Nat → MethodName) (bM : Nat → ByteArray) (lM : Nat → Nat) (tM : Nat → Option FieldType) (i : Nat) : List Jvm.Cond := Jvm.Cond.code (yM i) (bM i) (lM i) (tM i) :: zbw
def zrm (i : Nat) : Room := { frames := i + 1, cells := 0, slots := 0, locals := 60 * (i + 1) }
/-- a method's answer, as the kit's ends have it -/
def zQ (dC : Nat → ClassId) (dI : Nat → Nat → Nat) (ad : Nat → Nat) (cI cC cS : ClassId) (r : Option Int32) (h : zHp) : Array Value → State → Outcome → State → Prop := match r with
  | some x => va_Qi (fun (y : Int32) (_ : Unit) => y = x) (fun _ t => zWD dC dI ad cI cC cS h t) (zAD ad)
  | none => va_Qv (fun (_ : Unit) => True) (fun _ t => zWD dC dI ad cI cC cS h t) (zAD ad)
/-- the contract of the method 'i', that it answers as 'f' does -/
def zCT (l : Launch) (dC : Nat → ClassId) (dI : Nat → Nat → Nat) (ad : Nat → Nat) (cI cC cS : ClassId) (yM : Nat → MethodName) (bM : Nat → ByteArray) (lM : Nat → Nat) (tM : Nat → Option FieldType) (i : Nat) (f : List zV → zHp → zRs) : Prop :=
  ∀ (as : List zV) (h : zHp) (r : Option Int32) (h' : zHp), f as h = some (r, h') →
    Met l (yM i) (zwsM yM bM lM tM i) (zrm i) (va_Pc (as.map (ztr ad)) (zWD dC dI ad cI cC cS h)) (zQ dC dI ad cI cC cS r h') 0 0 (zAD ad)
theorem zblind {dC : Nat → ClassId} {dI : Nat → Nat → Nat} {ad : Nat → Nat} {cI cC cS : ClassId} {h : zHp} {as : List Value} : FrameBlind (va_Pc as (zWD dC dI ad cI cC cS h)) := by
  intro a U g mk q
  obtain ⟨q0, qP, qK, qN⟩ := q
  exact ⟨q0, qP, va_K.moved (u := U) (U := U.calling g mk a) (Vm.Alike.refl U.vm) qK, fun n hn => va_Nw.same (u := U) rfl rfl (qN n hn)⟩
theorem zNE_warm {s U : State} (hW : s.WarmedH U.vm) (h : zNE s) : zNE U := fun n hn => va_Nw.warmM hW (h n hn)
theorem zgoodIn {c : Jvm.Cond} {ws : List Jvm.Cond} (h : ∀ w ∈ ws, w ∈ zbw) : GoodIn (c :: zbw) ws := fun w hw => ⟨List.mem_cons_of_mem _ (h w hw), zgood (h w hw)⟩
section ZS
variable {p : Program} {l : Launch} {e : Env} {R : Room} {s : State} {m : MethodId} {args : Array Value} {below : List Frame} {meth : Method} {c : Code} {cells slots : Nat} {Q : State → Prop}
variable {ad : Nat → Nat} {cI cC cS : ClassId} {dC : Nat → ClassId} {dI : Nat → Nat → Nat} {A : Nat → Prop} {H0 : Heap} {nL : Nat} {cc : ByteArray} {own : String}
/-- from here on the machine comes to its end -/
def zW (p : Program) (l : Launch) (e : Env) (R : Room) (s : State) (m : MethodId) (args : Array Value) (below : List Frame) (meth : Method) (c : Code) (cells slots : Nat) (Q : State → Prop) (ad : Nat → Nat) (cI cC cS : ClassId) (dC : Nat → ClassId) (dI : Nat → Nat → Nat) (A : Nat → Prop) (H0 : Heap) (nL : Nat) (pc : Nat) (ls : zLs) (st : List zV) (h : zHp) : Prop :=
  ∀ (H : Heap) (locs : List Loc) (lj : Array Slot), va_P (dC, dI) zCl (zWS ad cI cC cS h) H → va_S A H0 H locs → zLR ad lj nL ls → W p l e R s m args below meth c H locs cells slots Q (F0 m pc lj (st.map (ztr ad)))
/-- what a step leaves to be shown -/
def zG (orc : zOr) (i : Nat) (r0 : Option Int32 × zHp) (K : Nat → zLs → List zV → zHp → Prop) (h : zHp) : ((Bool × Option Int32) ⊕ ((Bool × Nat × List zV × Nat × zLs × List zV) ⊕ (Bool × Option zN × Option zN))) → Prop
  | .inl (b, v) => b = true ∧ r0 = (v, h)
  | .inr (.inl (b, j, as, pc, ls, rest)) => b = true ∧ ∃ q, orc j as h = some q ∧ K pc ls (zpush q.1 rest) q.2
  | .inr (.inr (b, n1, n2)) => (b = true → ∃ n, n1 = some n ∧ K n.1 n.2.1 n.2.2.1 n.2.2.2) ∧ (b = false → ∃ n, n2 = some n ∧ K n.1 n.2.1 n.2.2.1 n.2.2.2)
theorem zG_go {orc : zOr} {i : Nat} {r0 : Option Int32 × zHp} {K : Nat → zLs → List zV → zHp → Prop} {h : zHp} {n : zN} {d} (hd : zgo n = some d) (hg : zG orc i r0 K h d) : K n.1 n.2.1 n.2.2.1 n.2.2.2 := by
  cases hd
  obtain ⟨n', h1, h2⟩ := hg.1 rfl
  cases h1
  exact h2
theorem zG_if {orc : zOr} {i : Nat} {r0 : Option Int32 × zHp} {K : Nat → zLs → List zV → zHp → Prop} {h : zHp} {n : zN} {b : Bool} {d} (hd : zif b n = some d) (hg : zG orc i r0 K h d) : b = true ∧ K n.1 n.2.1 n.2.2.1 n.2.2.2 := by
  cases hd
  cases b with
  | true =>
    obtain ⟨n', h1, h2⟩ := hg.1 rfl
    cases h1
    exact ⟨rfl, h2⟩
  | false =>
    obtain ⟨n', h1, h2⟩ := hg.2 rfl
    cases h1
theorem zG_br {orc : zOr} {i : Nat} {r0 : Option Int32 × zHp} {K : Nat → zLs → List zV → zHp → Prop} {h : zHp} {n1 n2 : zN} {b : Bool} {d} (hd : zbr b n1 n2 = some d) (hg : zG orc i r0 K h d) : (b = true → K n1.1 n1.2.1 n1.2.2.1 n1.2.2.2) ∧ (b = false → K n2.1 n2.2.1 n2.2.2.1 n2.2.2.2) := by
  cases hd
  refine ⟨fun hb => ?_, fun hb => ?_⟩
  · obtain ⟨n', h1, h2⟩ := hg.1 hb
    cases h1
    exact h2
  · obtain ⟨n', h1, h2⟩ := hg.2 hb
    cases h1
    exact h2
theorem zib_in {i : Int32} {n : Nat} (h : zib i n = true) : vp_in i n := by
  simp only [zib, Bool.not_eq_true', Bool.or_eq_false_iff, decide_eq_false_iff_not] at h
  rintro (q | q)
  · exact h.1 q
  · have h1 := Nat.ble_eq_true_of_le q
    rw [h.2] at h1
    cases h1
end ZS
end
section
/-! One step of the small machine is one step (or one call) of the machine. -/
section ZT
variable {p : Program} {l : Launch} {e : Env} {R : Room} {s : State} {m : MethodId} {args : Array Value} {below : List Frame} {meth : Method} {c : Code} {cells slots : Nat} {Q : State → Prop}
variable {ad : Nat → Nat} {cI cC cS : ClassId} {dC : Nat → ClassId} {dI : Nat → Nat → Nat} {A : Nat → Prop} {H0 : Heap} {nL : Nat} {cc : ByteArray} {own : String}
variable {pc pc' : Nat} {ls : zLs} {st : List zV} {h : zHp} {d : (Bool × Option Int32) ⊕ ((Bool × Nat × List zV × Nat × zLs × List zV) ⊕ (Bool × Option zN × Option zN))} {orc : zOr} {i : Nat} {r0 : Option Int32 × zHp}
theorem zs_ldI {k : Nat} (hd : zldI ls k pc' st h = some d) (hg : zG orc i r0 (zW p l e R s m args below meth c cells slots Q ad cI cC cS dC dI A H0 nL) h d)
    (row : ∀ (H : Heap) (locs : List Loc) (lj : Array Slot) (x : Int32) (rest : List Value), lj[k]? = some (.val (.int x)) → W p l e R s m args below meth c H locs cells slots Q (F0 m pc' lj (.int x :: rest)) → W p l e R s m args below meth c H locs cells slots Q (F0 m pc lj rest)) :
    zW p l e R s m args below meth c cells slots Q ad cI cC cS dC dI A H0 nL pc ls st h := by
  unfold zldI at hd
  split at hd
  · rename_i x hx
    have hk := zG_go hd hg
    intro H locs lj hP hS hl
    exact row H locs lj x _ (zLR_get hl hx) (hk H locs lj hP hS hl)
  · cases hd
theorem zs_ldA {k : Nat} (hd : zldA ls k pc' st h = some d) (hg : zG orc i r0 (zW p l e R s m args below meth c cells slots Q ad cI cC cS dC dI A H0 nL) h d)
    (row : ∀ (H : Heap) (locs : List Loc) (lj : Array Slot) (x : Nat) (rest : List Value), lj[k]? = some (.val (.ref x)) → W p l e R s m args below meth c H locs cells slots Q (F0 m pc' lj (.ref x :: rest)) → W p l e R s m args below meth c H locs cells slots Q (F0 m pc lj rest)) :
    zW p l e R s m args below meth c cells slots Q ad cI cC cS dC dI A H0 nL pc ls st h := by
  unfold zldA at hd
  split at hd
  · rename_i x hx
    have hk := zG_go hd hg
    intro H locs lj hP hS hl
    exact row H locs lj (ad x) _ (zLR_get hl hx) (hk H locs lj hP hS hl)
  · cases hd
theorem zs_stI {k : Nat} (hd : zstI ls k pc' st h = some d) (hg : zG orc i r0 (zW p l e R s m args below meth c cells slots Q ad cI cC cS dC dI A H0 nL) h d)
    (row : ∀ (H : Heap) (locs : List Loc) (lj : Array Slot) (x : Int32) (rest : List Value) (lv : List (Nat × Value)), lv_has lj nL lv → k < nL → (∀ lj' : Array Slot, lv_has lj' nL ((k, .int x) :: lv.filter (fun q => !(q.1 == k) && !(q.1 + 1 == k && q.2.category == 2))) → W p l e R s m args below meth c H locs cells slots Q (F0 m pc' lj' rest)) → W p l e R s m args below meth c H locs cells slots Q (F0 m pc lj (.int x :: rest))) :
    zW p l e R s m args below meth c cells slots Q ad cI cC cS dC dI A H0 nL pc ls st h := by
  unfold zstI at hd
  split at hd
  · rename_i x r
    obtain ⟨hb, hk⟩ := zG_if hd hg
    have hlt : k < ls.length := Nat.blt_eq.mp hb
    intro H locs lj hP hS hl
    have hlt2 : k < nL := by rw [← hl.1]; exact hlt
    exact row H locs lj x _ _ hl.2 hlt2 (fun lj' hl' => hk H locs lj' hP hS (zLR_set (lj := lj) (v := .inl x) hl.1 hlt2 hl'))
  · cases hd
theorem zs_op {f : Int32 → Int32 → Int32} (hd : zop f pc' ls st h = some d) (hg : zG orc i r0 (zW p l e R s m args below meth c cells slots Q ad cI cC cS dC dI A H0 nL) h d)
    (row : ∀ (H : Heap) (locs : List Loc) (lj : Array Slot) (x y : Int32) (rest : List Value), W p l e R s m args below meth c H locs cells slots Q (F0 m pc' lj (.int (f x y) :: rest)) → W p l e R s m args below meth c H locs cells slots Q (F0 m pc lj (.int y :: .int x :: rest))) :
    zW p l e R s m args below meth c cells slots Q ad cI cC cS dC dI A H0 nL pc ls st h := by
  unfold zop at hd
  split at hd
  · have hk := zG_go hd hg
    intro H locs lj hP hS hl
    exact row H locs lj _ _ _ (hk H locs lj hP hS hl)
  · cases hd
theorem zs_dv {f : Int32 → Int32 → Int32} (hd : zdv f pc' ls st h = some d) (hg : zG orc i r0 (zW p l e R s m args below meth c cells slots Q ad cI cC cS dC dI A H0 nL) h d)
    (row : ∀ (H : Heap) (locs : List Loc) (lj : Array Slot) (x y : Int32) (rest : List Value), ¬ y = 0 → W p l e R s m args below meth c H locs cells slots Q (F0 m pc' lj (.int (f x y) :: rest)) → W p l e R s m args below meth c H locs cells slots Q (F0 m pc lj (.int y :: .int x :: rest))) :
    zW p l e R s m args below meth c cells slots Q ad cI cC cS dC dI A H0 nL pc ls st h := by
  unfold zdv at hd
  split at hd
  · obtain ⟨hb, hk⟩ := zG_if hd hg
    intro H locs lj hP hS hl
    exact row H locs lj _ _ _ (by simpa using hb) (hk H locs lj hP hS hl)
  · cases hd
theorem zs_br {t pf : Nat} {st' : List zV} {b : Bool} {P : Prop} (hd : zbr b (t, ls, st', h) (pf, ls, st', h) = some d) (hg : zG orc i r0 (zW p l e R s m args below meth c cells slots Q ad cI cC cS dC dI A H0 nL) h d) (hb : b = true ↔ P)
    {pre : List zV} (row : ∀ (H : Heap) (locs : List Loc) (lj : Array Slot) (rest : List Value), (P → W p l e R s m args below meth c H locs cells slots Q (F0 m t lj rest)) → (¬ P → W p l e R s m args below meth c H locs cells slots Q (F0 m pf lj rest)) → W p l e R s m args below meth c H locs cells slots Q (F0 m pc lj (pre.map (ztr ad) ++ rest))) :
    zW p l e R s m args below meth c cells slots Q ad cI cC cS dC dI A H0 nL pc ls (pre ++ st') h := by
  obtain ⟨k1, k2⟩ := zG_br hd hg
  intro H locs lj hP hS hl
  rw [List.map_append]
  refine row H locs lj _ (fun q => k1 (hb.mpr q) H locs lj hP hS hl) (fun q => k2 ?_ H locs lj hP hS hl)
  cases hbb : b with
  | true => exact absurd (hb.mp hbb) q
  | false => rfl
theorem zs_icmp (hx : p.tables.exec = Jvm.exec) (hb : c.code = cc) {cd : ClassFile.Cond} {off : Int} {t : Nat} {x y : Int32} {r : List zV} (hdc : decode cc pc = .ok (.if_icmp cd off, 3)) (ht : (pc : Int) + off = (t : Int))
    (hd : zbr (zci cd x y) (t, ls, r, h) (pc + 3, ls, r, h) = some d) (hg : zG orc i r0 (zW p l e R s m args below meth c cells slots Q ad cI cC cS dC dI A H0 nL) h d) :
    zW p l e R s m args below meth c cells slots Q ad cI cC cS dC dI A H0 nL pc ls (.inl y :: .inl x :: r) h := by
  cases cd with
  | eq => exact zs_br (pre := [.inl y, .inl x]) hd hg (P := x = y) (by simp [zci]) (fun H locs lj rest k1 k2 => lv_icmp_eq hx hb hdc ht k1 k2)
  | ne => exact zs_br (pre := [.inl y, .inl x]) hd hg (P := ¬ x = y) (by simp [zci]) (fun H locs lj rest k1 k2 => lv_icmp_ne hx hb hdc ht k1 (fun q => k2 (fun q2 => q2 q)))
  | lt => exact zs_br (pre := [.inl y, .inl x]) hd hg (P := x < y) (by simp [zci]) (fun H locs lj rest k1 k2 => lv_icmp_lt hx hb hdc ht k1 k2)
  | ge => exact zs_br (pre := [.inl y, .inl x]) hd hg (P := y ≤ x) (by simp [zci]) (fun H locs lj rest k1 k2 => lv_icmp_ge hx hb hdc ht k1 k2)
  | gt => exact zs_br (pre := [.inl y, .inl x]) hd hg (P := y < x) (by simp [zci]) (fun H locs lj rest k1 k2 => lv_icmp_gt hx hb hdc ht k1 k2)
  | le => exact zs_br (pre := [.inl y, .inl x]) hd hg (P := x ≤ y) (by simp [zci]) (fun H locs lj rest k1 k2 => lv_icmp_le hx hb hdc ht k1 k2)
theorem zs_if (hx : p.tables.exec = Jvm.exec) (hb : c.code = cc) {cd : ClassFile.Cond} {off : Int} {t : Nat} {x : Int32} {r : List zV} (hdc : decode cc pc = .ok (.ifCond cd off, 3)) (ht : (pc : Int) + off = (t : Int))
    (hd : zbr (zci cd x 0) (t, ls, r, h) (pc + 3, ls, r, h) = some d) (hg : zG orc i r0 (zW p l e R s m args below meth c cells slots Q ad cI cC cS dC dI A H0 nL) h d) :
    zW p l e R s m args below meth c cells slots Q ad cI cC cS dC dI A H0 nL pc ls (.inl x :: r) h := by
  cases cd with
  | eq => exact zs_br (pre := [.inl x]) hd hg (P := x = 0) (by simp [zci]) (fun H locs lj rest k1 k2 => lv_if_eq hx hb hdc ht k1 k2)
  | ne => exact zs_br (pre := [.inl x]) hd hg (P := ¬ x = 0) (by simp [zci]) (fun H locs lj rest k1 k2 => lv_if_ne hx hb hdc ht k1 (fun q => k2 (fun q2 => q2 q)))
  | lt => exact zs_br (pre := [.inl x]) hd hg (P := x < 0) (by simp [zci]) (fun H locs lj rest k1 k2 => lv_if_lt hx hb hdc ht k1 k2)
  | ge => exact zs_br (pre := [.inl x]) hd hg (P := 0 ≤ x) (by simp [zci]) (fun H locs lj rest k1 k2 => lv_if_ge hx hb hdc ht k1 k2)
  | gt => exact zs_br (pre := [.inl x]) hd hg (P := 0 < x) (by simp [zci]) (fun H locs lj rest k1 k2 => lv_if_gt hx hb hdc ht k1 k2)
  | le => exact zs_br (pre := [.inl x]) hd hg (P := x ≤ 0) (by simp [zci]) (fun H locs lj rest k1 k2 => lv_if_le hx hb hdc ht k1 k2)
theorem zs_get (hx : p.tables.exec = Jvm.exec) (hb : c.code = cc) (hown : s.vm.findClass own = some m.cls) (hts : ∀ w ∈ zbw, w.before args s = true) (hK : va_K (dC, dI) zCl (zty cI cC cS) s) {x a b o : Nat} {r : List zV} (hdc : decode cc pc = .ok (.getfield x, 3))
    (ok : a < 7 ∧ b < zNF a ∧ Jvm.Cond.fieldLink own x (zTT a b).1 (zTT a b).2.1 (zTT a b).2.2.1 ∈ zbw)
    (hd : zif (Nat.beq (zSk o) a) (pc + 3, ls, (if Nat.beq (zFT a b) 2 then .inr (zHR o b) else .inl (h o b)) :: r, h) = some d) (hg : zG orc i r0 (zW p l e R s m args below meth c cells slots Q ad cI cC cS dC dI A H0 nL) h d) :
    zW p l e R s m args below meth c cells slots Q ad cI cC cS dC dI A H0 nL pc ls (.inr o :: r) h := by
  obtain ⟨h1, h2, h3⟩ := ok
  obtain ⟨hbb, hk⟩ := zG_if hd hg
  have hs := Nat.eq_of_beq_eq_true hbb
  have ho : o < 84 := zSk_lt hs (by omega)
  intro H locs lj hP hS hl
  exact va_get (D := (dC, dI)) (ci := a) (C := zRR a) (T := zTT a) (N := zNF a) hx hb hts (zlw h1) hown hK hP o ((zWS_at ho).trans (by rw [zent_obj hs h1])) (zCl_at h1) b h2 (hts _ h3) (fun _ h9 => h9) (zfs_at h2) hdc (hk H locs lj hP hS hl)
theorem zs_put (hx : p.tables.exec = Jvm.exec) (hb : c.code = cc) (hown : s.vm.findClass own = some m.cls) (hts : ∀ w ∈ zbw, w.before args s = true) (hK : va_K (dC, dI) zCl (zty cI cC cS) s) (hap : zap ad) (hA : ∀ k, k < 84 → A (ad k)) {x a b o : Nat} {v : Int32} {r : List zV} (hdc : decode cc pc = .ok (.putfield x, 3))
    (ok : a < 7 ∧ b < zNF a ∧ Jvm.Cond.fieldLink own x (zTT a b).1 (zTT a b).2.1 (zTT a b).2.2.1 ∈ zbw ∧ (zTT a b).2.2.2 = false)
    (hd : zif (Nat.beq (zSk o) a && (Nat.beq (zFT a b) 0 || (decide (v = 0) || decide (v = 1)))) (pc + 3, ls, r, zup h o b v) = some d) (hg : zG orc i r0 (zW p l e R s m args below meth c cells slots Q ad cI cC cS dC dI A H0 nL) h d) :
    zW p l e R s m args below meth c cells slots Q ad cI cC cS dC dI A H0 nL pc ls (.inl v :: .inr o :: r) h := by
  obtain ⟨h1, h2, h3, h4⟩ := ok
  obtain ⟨hbb, hk⟩ := zG_if hd hg
  rw [Bool.and_eq_true] at hbb
  have hs := Nat.eq_of_beq_eq_true hbb.1
  have ho : o < 84 := zSk_lt hs (by omega)
  have hft : Nat.beq (zFT a b) 2 = false ∧ narrow (zYY a b) (.int v) = .int v ∧ fits (zYY a b) (.int v) = true := by
    have hv := hbb.2
    have hfin : (zTT a b).2.2.2 = false := h4
    have key : ∀ a', a' < 7 → ∀ b', b' < zNF a' → (zTT a' b').2.2.2 = false → zYY a' b' = .int ∨ zYY a' b' = .boolean := by decide +kernel
    rcases key a h1 b h2 hfin with ht | ht
    · have e0 : zFT a b = 0 := by simp [zFT, ht]
      rw [e0, ht]
      exact ⟨rfl, rfl, rfl⟩
    · have e0 : zFT a b = 1 := by simp [zFT, ht]
      rw [e0] at hv ⊢
      have hv : v = 0 ∨ v = 1 := by
        simp only [Bool.or_eq_true, decide_eq_true_eq] at hv
        rcases hv with q | q
        · cases q
        · exact q
      rw [ht]
      rcases hv with rfl | rfl
      · exact ⟨rfl, by decide, by decide⟩
      · exact ⟨rfl, by decide, by decide⟩
  intro H locs lj hP hS hl
  refine va_put (D := (dC, dI)) (ci := a) (C := zRR a) (T := zTT a) (N := zNF a) (v := .int v) hx hb hts (zlw h1) (zYY a) (zYY_ok h1) (zNN h1) hown hK hP (zWS_D hap hA h) hS o ((zWS_at ho).trans (by rw [zent_obj hs h1])) (zCl_at h1) b h2 (hts _ h3) (fun _ h9 => h9) h4 (zYY_ok h1 b h2) hft.2.1 hft.2.2 (by rw [zfs_len]; exact h2) hdc (fun H1 locs1 hP1 hD1 hS1 => ?_)
  rw [zfs_set h2 hft.1] at hP1
  rw [zWS_set (h' := zup h o b v) (zent_obj hs h1) (fun i hi => zup_ne hi)] at hP1
  exact hk H1 locs1 lj hP1 hS1 hl
end ZT
end
section
/-! Rows and calls. -/
section ZU
variable {p : Program} {l : Launch} {e : Env} {R : Room} {s : State} {m : MethodId} {args : Array Value} {below : List Frame} {meth : Method} {c : Code} {cells slots : Nat} {Q : State → Prop}
variable {ad : Nat → Nat} {cI cC cS : ClassId} {dC : Nat → ClassId} {dI : Nat → Nat → Nat} {A : Nat → Prop} {H0 : Heap} {nL : Nat} {cc : ByteArray} {own : String}
variable {pc pc' : Nat} {ls : zLs} {st : List zV} {h : zHp} {d : (Bool × Option Int32) ⊕ ((Bool × Nat × List zV × Nat × zLs × List zV) ⊕ (Bool × Option zN × Option zN))} {orc : zOr} {i : Nat} {r0 : Option Int32 × zHp}
theorem zs_iald (hx : p.tables.exec = Jvm.exec) (hb : c.code = cc) (hK : va_K (dC, dI) zCl (zty cI cC cS) s) {o : Nat} {x : Int32} {r : List zV} (hdc : decode cc pc = .ok (.iaload, 1))
    (hd : zif (Nat.beq (zSk o) 8 && zib x (zSn o)) (pc + 1, ls, .inl (h o x.toNatClampNeg) :: r, h) = some d) (hg : zG orc i r0 (zW p l e R s m args below meth c cells slots Q ad cI cC cS dC dI A H0 nL) h d) :
    zW p l e R s m args below meth c cells slots Q ad cI cC cS dC dI A H0 nL pc ls (.inl x :: .inr o :: r) h := by
  obtain ⟨hbb, hk⟩ := zG_if hd hg
  rw [Bool.and_eq_true] at hbb
  have hs := Nat.eq_of_beq_eq_true hbb.1
  have ho : o < 84 := zSk_lt hs (by omega)
  intro H locs lj hP hS hl
  exact va_iald (D := (dC, dI)) hx hb hK hP o 0 ((zWS_at ho).trans (by rw [zent_int hs])) rfl (zib_in hbb.2) hdc (hk H locs lj hP hS hl)
theorem zs_cald (hx : p.tables.exec = Jvm.exec) (hb : c.code = cc) (hK : va_K (dC, dI) zCl (zty cI cC cS) s) {o : Nat} {x : Int32} {r : List zV} (hdc : decode cc pc = .ok (.caload, 1))
    (hd : zif (Nat.beq (zSk o) 7 && zib x (zSn o)) (pc + 1, ls, .inl (h o x.toNatClampNeg) :: r, h) = some d) (hg : zG orc i r0 (zW p l e R s m args below meth c cells slots Q ad cI cC cS dC dI A H0 nL) h d) :
    zW p l e R s m args below meth c cells slots Q ad cI cC cS dC dI A H0 nL pc ls (.inl x :: .inr o :: r) h := by
  obtain ⟨hbb, hk⟩ := zG_if hd hg
  rw [Bool.and_eq_true] at hbb
  have hs := Nat.eq_of_beq_eq_true hbb.1
  have ho : o < 84 := zSk_lt hs (by omega)
  intro H locs lj hP hS hl
  exact va_cald (D := (dC, dI)) hx hb hK hP o 1 ((zWS_at ho).trans (by rw [zent_char hs])) rfl (zib_in hbb.2) hdc (hk H locs lj hP hS hl)
theorem zs_aald (hx : p.tables.exec = Jvm.exec) (hb : c.code = cc) (hK : va_K (dC, dI) zCl (zty cI cC cS) s) {o : Nat} {x : Int32} {r : List zV} (hdc : decode cc pc = .ok (.aaload, 1))
    (hd : zif (Nat.beq (zSk o) 9 && zib x (zSn o)) (pc + 1, ls, .inr (zHR o x.toNatClampNeg) :: r, h) = some d) (hg : zG orc i r0 (zW p l e R s m args below meth c cells slots Q ad cI cC cS dC dI A H0 nL) h d) :
    zW p l e R s m args below meth c cells slots Q ad cI cC cS dC dI A H0 nL pc ls (.inl x :: .inr o :: r) h := by
  obtain ⟨hbb, hk⟩ := zG_if hd hg
  rw [Bool.and_eq_true] at hbb
  have hs := Nat.eq_of_beq_eq_true hbb.1
  have ho : o < 84 := zSk_lt hs (by omega)
  intro H locs lj hP hS hl
  exact va_aldq (D := (dC, dI)) (tys := zty cI cC cS) (cA := cS) (C := "BorderPaints$State") (f := fun j => some (ad (zHR o j))) hx hb hK hP o 2 ((zWS_at ho).trans (by rw [zent_sts hs])) rfl (zib_in hbb.2) hdc (hk H locs lj hP hS hl)
theorem zs_iast (hx : p.tables.exec = Jvm.exec) (hb : c.code = cc) (hK : va_K (dC, dI) zCl (zty cI cC cS) s) (hap : zap ad) (hA : ∀ k, k < 84 → A (ad k)) {o : Nat} {x v : Int32} {r : List zV} (hdc : decode cc pc = .ok (.iastore, 1))
    (hd : zif (Nat.beq (zSk o) 8 && zib x (zSn o)) (pc + 1, ls, r, zup h o x.toNatClampNeg v) = some d) (hg : zG orc i r0 (zW p l e R s m args below meth c cells slots Q ad cI cC cS dC dI A H0 nL) h d) :
    zW p l e R s m args below meth c cells slots Q ad cI cC cS dC dI A H0 nL pc ls (.inl v :: .inl x :: .inr o :: r) h := by
  obtain ⟨hbb, hk⟩ := zG_if hd hg
  rw [Bool.and_eq_true] at hbb
  have hs := Nat.eq_of_beq_eq_true hbb.1
  have ho : o < 84 := zSk_lt hs (by omega)
  intro H locs lj hP hS hl
  refine va_iast (D := (dC, dI)) hx hb hK hP (zWS_D hap hA h) hS o 0 ((zWS_at ho).trans (by rw [zent_int hs])) rfl (zib_in hbb.2) hdc (fun H1 locs1 hP1 _ hS1 => ?_)
  rw [zWS_set (h' := zup h o x.toNatClampNeg v) (by rw [zent_int hs, zup_row]) (fun i hi => zup_ne hi)] at hP1
  exact hk H1 locs1 lj hP1 hS1 hl
theorem zs_cast (hx : p.tables.exec = Jvm.exec) (hb : c.code = cc) (hK : va_K (dC, dI) zCl (zty cI cC cS) s) (hap : zap ad) (hA : ∀ k, k < 84 → A (ad k)) {o : Nat} {x v : Int32} {r : List zV} (hdc : decode cc pc = .ok (.castore, 1))
    (hd : zif (Nat.beq (zSk o) 7 && zib x (zSn o)) (pc + 1, ls, r, zup h o x.toNatClampNeg (vp_nar .char v)) = some d) (hg : zG orc i r0 (zW p l e R s m args below meth c cells slots Q ad cI cC cS dC dI A H0 nL) h d) :
    zW p l e R s m args below meth c cells slots Q ad cI cC cS dC dI A H0 nL pc ls (.inl v :: .inl x :: .inr o :: r) h := by
  obtain ⟨hbb, hk⟩ := zG_if hd hg
  rw [Bool.and_eq_true] at hbb
  have hs := Nat.eq_of_beq_eq_true hbb.1
  have ho : o < 84 := zSk_lt hs (by omega)
  intro H locs lj hP hS hl
  refine va_cast (D := (dC, dI)) hx hb hK hP (zWS_D hap hA h) hS o 1 ((zWS_at ho).trans (by rw [zent_char hs])) rfl (zib_in hbb.2) hdc (fun H1 locs1 hP1 _ hS1 => ?_)
  rw [zWS_set (h' := zup h o x.toNatClampNeg (vp_nar .char v)) (by rw [zent_char hs, zup_row]) (fun i hi => zup_ne hi)] at hP1
  exact hk H1 locs1 lj hP1 hS1 hl
theorem zcp_ne {s d sp dp n : Nat} {b : Nat} (hb : b ≠ d) : zcp h s d sp dp n b = h b := by
  funext j
  simp [zcp, hb]
theorem zcp_row {s d sp dp n : Nat} : zcp h s d sp dp n d = va_cpy (h s) (h d) sp dp n := by
  funext j
  simp [zcp]
theorem zs_copy (hx : p.tables.exec = Jvm.exec) (hb : c.code = cc) (hml : c.maxLocals = nL) (hown : s.vm.findClass own = some m.cls) (hts : ∀ w ∈ zbw, w.before args s = true) (hK : va_K (dC, dI) zCl (zty cI cC cS) s) (hap : zap ad) (hA : ∀ k, k < 84 → A (ad k)) (hR : 1 ≤ R.frames ∧ 60 ≤ R.locals) {x sr ds : Nat} {sp dp n : Int32} {r : List zV} (hdc : decode cc pc = .ok (.invokestatic x, 3))
    (ok : Jvm.Cond.methodLink own x arraycopyName ∈ zbw ∧ Jvm.Cond.native arraycopyName ∈ zbw ∧ Jvm.Cond.static arraycopyName ∈ zbw ∧ Jvm.Cond.initialized "java/lang/System" ∈ zbw)
    (hd : zif (Nat.beq (zSk sr) 8 && Nat.beq (zSk ds) 8 && (!decide (sp < 0) && !decide (dp < 0) && !decide (n < 0)) && Nat.ble (sp.toNatClampNeg + n.toNatClampNeg) (zSn sr) && Nat.ble (dp.toNatClampNeg + n.toNatClampNeg) (zSn ds) && Nat.ble r.length 8) (pc + 3, ls, r, zcp h sr ds sp.toNatClampNeg dp.toNatClampNeg n.toNatClampNeg) = some d) (hg : zG orc i r0 (zW p l e R s m args below meth c cells slots Q ad cI cC cS dC dI A H0 nL) h d) :
    zW p l e R s m args below meth c cells slots Q ad cI cC cS dC dI A H0 nL pc ls (.inl n :: .inl dp :: .inr ds :: .inl sp :: .inr sr :: r) h := by
  obtain ⟨k1, k2, k3, k4⟩ := ok
  obtain ⟨hbb, hk⟩ := zG_if hd hg
  simp only [Bool.and_eq_true, Bool.not_eq_true', decide_eq_false_iff_not] at hbb
  obtain ⟨⟨⟨⟨⟨g1, g2⟩, ⟨g3, g4⟩, g5⟩, g6⟩, g7⟩, g8⟩ := hbb
  have hs1 := Nat.eq_of_beq_eq_true g1
  have hs2 := Nat.eq_of_beq_eq_true g2
  have ho1 : sr < 84 := zSk_lt hs1 (by omega)
  have ho2 : ds < 84 := zSk_lt hs2 (by omega)
  have h8 := Nat.le_of_ble_eq_true g8
  intro H locs lj hP hS hl
  refine va_copyi (D := (dC, dI)) hx hb (by rw [hml]; exact hl.2.1.symm) hown (hts _ k1) (hts _ k2) (hts _ k3) (hts _ k4) hK hP (zWS_D hap hA h) hS sr ds 0 0 ((zWS_at ho1).trans (by rw [zent_int hs1])) ((zWS_at ho2).trans (by rw [zent_int hs2])) rfl rfl rfl g3 g4 g5 (Nat.le_of_ble_eq_true g6) (Nat.le_of_ble_eq_true g7) (fun _ _ => rfl) hR.1 ?_ hdc (fun H1 locs1 hP1 _ hS1 => ?_)
  · rw [zcat_sum]
    have h9 : nativeFrameWords "java/lang/System" "arraycopy" 5 ≤ 7 := by decide +kernel
    omega
  · rw [zWS_set (h' := zcp h sr ds sp.toNatClampNeg dp.toNatClampNeg n.toNatClampNeg) (by rw [zent_int hs2, zcp_row]) (fun i hi => zcp_ne hi)] at hP1
    exact hk H1 locs1 lj hP1 hS1 hl
/-- behind a call -/
theorem zs_ret {y : MethodName} {r1 : Option Int32 × zHp} {rest : List zV} {stj : List Value} {args1 : Array Value} (hA2 : ∀ q, zAD ad q → A q)
    (hrun : ∀ (H : Heap) (locs : List Loc) (lj : Array Slot), va_P (dC, dI) zCl (zWS ad cI cC cS h) H → zLR ad lj nL ls → va_Run p l e R s m args below meth c H locs cells slots 0 0 (F0 m pc lj stj) (rest.map (ztr ad)) (zQ dC dI ad cI cC cS r1.1 r1.2 args1) (zAD ad))
    (hk : zW p l e R s m args below meth c cells slots Q ad cI cC cS dC dI A H0 nL (pc + 3) ls (zpush r1.1 rest) r1.2) :
    ∀ (H : Heap) (locs : List Loc) (lj : Array Slot), va_P (dC, dI) zCl (zWS ad cI cC cS h) H → va_S A H0 H locs → zLR ad lj nL ls → W p l e R s m args below meth c H locs cells slots Q (F0 m pc lj stj) := by
  intro H locs lj hP hS hl
  obtain ⟨v, h1⟩ := r1
  have hr := hrun H locs lj hP hl
  cases v with
  | none =>
    refine va_callv (a := args1) (A0 := A) (A1 := zAD ad) hr hS (fun q _ h => hA2 q h) hA2 (fun u t H1 locs1 ht hvm hw hB hz1 hk1 hS1 => ?_)
    obtain ⟨hP1, -, -⟩ := hB
    rw [ht] at hP1
    exact hk H1 locs1 lj hP1 hS1 hl
  | some z =>
    refine va_calli (a := args1) (A0 := A) (A1 := zAD ad) hr hS (fun q _ h => hA2 q h) hA2 (fun r u t H1 locs1 ht hvm hw hB hz1 hk1 hS1 => ?_)
    obtain ⟨hP1, -, -⟩ := hB
    rw [ht] at hP1
    subst hw
    exact hk H1 locs1 lj hP1 hS1 hl
end ZU
end
section
/-! Calls, every step, the whole run, and a method's contract out of its run. -/
section ZX
variable {p : Program} {l : Launch} {e : Env} {R : Room} {s : State} {m : MethodId} {args : Array Value} {below : List Frame} {meth : Method} {c : Code} {cells slots : Nat} {Q : State → Prop}
variable {ad : Nat → Nat} {cI cC cS : ClassId} {dC : Nat → ClassId} {dI : Nat → Nat → Nat} {A : Nat → Prop} {H0 : Heap} {nL : Nat} {cc : ByteArray} {own : String}
variable {yM : Nat → MethodName} {bM : Nat → ByteArray} {lM : Nat → Nat} {tM : Nat → Option FieldType} {mci : Nat → Nat}
variable {pc pc' : Nat} {ls : zLs} {st : List zV} {h : zHp} {d : (Bool × Option Int32) ⊕ ((Bool × Nat × List zV × Nat × zLs × List zV) ⊕ (Bool × Option zN × Option zN))} {orc : zOr} {i : Nat} {r0 : Option Int32 × zHp}
theorem zroom {a ml : Nat} (hai : a < i) (hml : ml ≤ 40) (hR : i + 1 ≤ R.frames ∧ 60 * (i + 1) ≤ R.locals) : (zrm a).frames + 1 ≤ R.frames ∧ 8 + (ml + 11) + (zrm a).locals ≤ R.locals := by
  simp only [zrm]
  omega
theorem zs_callV (hx : p.tables.exec = Jvm.exec) (hb : c.code = cc) (hml : c.maxLocals = nL) (hown : s.vm.findClass own = some m.cls) (hts : ∀ w ∈ zbw, w.before args s = true) (hK : va_K (dC, dI) zCl (zty cI cC cS) s) (hNE : zNE s) (hA2 : ∀ q, zAD ad q → A q) (hR : i + 1 ≤ R.frames ∧ 60 * (i + 1) ≤ R.locals) (hRc : cells ≤ R.cells ∧ slots ≤ R.slots)
    (hcall : ∀ j, j < i → zCT l dC dI ad cI cC cS yM bM lM tM j (orc j)) {x a b : Nat} (hdc : decode cc pc = .ok (.invokevirtual x, 3))
    (ok : a < i ∧ mci a < 7 ∧ (yM a).cls = zRR (mci a) ∧ zcl (yM a) (bM a) (lM a) (tM a) b ∧ Jvm.Cond.methodLink own x (yM a) ∈ zbw ∧ Jvm.Cond.instanceMethod (yM a) ∈ zbw ∧ Jvm.Cond.selects (yM a).cls (yM a) (yM a) ∈ zbw)
    (hd : zcv (st.take b) a b (pc + 3) mci ls (st.drop b) = some d) (hg : zG orc i r0 (zW p l e R s m args below meth c cells slots Q ad cI cC cS dC dI A H0 nL) h d) :
    zW p l e R s m args below meth c cells slots Q ad cI cC cS dC dI A H0 nL pc ls st h := by
  obtain ⟨k1, k2, k3, ⟨k4, k5, k6, k7⟩, k8, k9, k10⟩ := ok
  have hst := List.take_append_drop b st
  unfold zcv at hd
  split at hd
  · rename_i o rest heq
    cases hd
    obtain ⟨hbb, ⟨v, h1⟩, ho, hk⟩ := hg
    simp only [Bool.and_eq_true] at hbb
    have g1 := Nat.eq_of_beq_eq_true hbb.1.1
    have g2 := Nat.eq_of_beq_eq_true hbb.1.2
    have g3 := Nat.le_of_ble_eq_true hbb.2
    have ho84 : o < 84 := zSk_lt g1 (by omega)
    rw [heq] at hst
    have hG : GoodIn zbw (wsV own x (yM a).cls (yM a) (zwsM yM bM lM tM a)) := fun w hw => by
      have h2 : w ∈ zbw := by
        simp only [wsV, zwsM, List.cons_append, List.nil_append, List.mem_cons] at hw
        rcases hw with rfl | rfl | rfl | rfl | rfl | hw
        · exact k8
        · exact k9
        · exact k10
        · exact k4
        · exact k5
        · exact hw
      exact ⟨h2, zgood h2⟩
    refine zs_ret (y := yM a) (r1 := (v, h1)) (rest := rest) (args1 := (Value.ref (ad o) :: ((st.take b).reverse.map (ztr ad))).toArray) hA2 (fun H locs lj hP hl => ?_) hk
    refine va_runV (C := (yM a).cls) ⟨hx, hb, hml, hown, hts⟩ (hcall a k1 _ _ _ _ ho) (cwV b hts hG rfl rfl rfl ⟨rfl, k6⟩ (zroom k1 k7 hR)) ⟨zblind, ?_, fun U hU hW => ⟨rfl, by rw [hU]; exact hP, va_K.moved hW.alike hK, zNE_warm hW hNE⟩⟩ rfl (by simp only [List.length_map, List.length_reverse]; exact g2) hl.2.1 ?_ (lv_room (by rw [zcat_sum]; exact g3)) hdc hRc
    · rw [k3]
      exact va_recv hK hP (zCl_at k2) ((zWS_at ho84).trans (by rw [zent_obj g1 k2]))
    · have h5 := congrArg (List.map (ztr ad)) hst
      rw [List.map_append] at h5
      show st.map (ztr ad) = _
      rw [← h5, ← List.map_reverse, List.reverse_reverse]
      rfl
  · cases hd
theorem zs_callS (hx : p.tables.exec = Jvm.exec) (hb : c.code = cc) (hml : c.maxLocals = nL) (hown : s.vm.findClass own = some m.cls) (hts : ∀ w ∈ zbw, w.before args s = true) (hK : va_K (dC, dI) zCl (zty cI cC cS) s) (hNE : zNE s) (hA2 : ∀ q, zAD ad q → A q) (hR : i + 1 ≤ R.frames ∧ 60 * (i + 1) ≤ R.locals) (hRc : cells ≤ R.cells ∧ slots ≤ R.slots)
    (hcall : ∀ j, j < i → zCT l dC dI ad cI cC cS yM bM lM tM j (orc j)) {x a b : Nat} (hdc : decode cc pc = .ok (.invokestatic x, 3))
    (k1 : a < i) (hcl : zcl (yM a) (bM a) (lM a) (tM a) b) (k8 : Jvm.Cond.static (yM a) ∈ zbw) (k9 : Jvm.Cond.methodLink own x (yM a) ∈ zbw ∨ ∃ h, (own, x, yM a, h) ∈ zNL)
    (hd : some (.inr (.inl (Nat.beq (st.take b).length b && Nat.ble (st.drop b).length 8, a, (st.take b).reverse, pc + 3, ls, st.drop b))) = some d) (hg : zG orc i r0 (zW p l e R s m args below meth c cells slots Q ad cI cC cS dC dI A H0 nL) h d) :
    zW p l e R s m args below meth c cells slots Q ad cI cC cS dC dI A H0 nL pc ls st h := by
  obtain ⟨k4, k5, k6, k7⟩ := hcl
  have hst := List.take_append_drop b st
  cases hd
  obtain ⟨hbb, ⟨v, h1⟩, ho, hk⟩ := hg
  simp only [Bool.and_eq_true] at hbb
  have g2 := Nat.eq_of_beq_eq_true hbb.1
  have g3 := Nat.le_of_ble_eq_true hbb.2
  have hGm : GoodIn zbw (zwsM yM bM lM tM a) := fun w hw => by
    have h2 : w ∈ zbw := by
      rcases List.mem_cons.mp hw with rfl | hw
      · exact k5
      · exact hw
    exact ⟨h2, zgood h2⟩
  refine zs_ret (y := yM a) (r1 := (v, h1)) (rest := st.drop b) (args1 := ((st.take b).reverse.map (ztr ad)).toArray) hA2 (fun H locs lj hP hl => ?_) hk
  have hstk : st.map (ztr ad) = ((st.take b).reverse.map (ztr ad)).reverse ++ (st.drop b).map (ztr ad) := by
    rw [← List.map_reverse, List.reverse_reverse, ← List.map_append, hst]
  rcases k9 with k9 | ⟨hs, k9⟩
  · have hG : GoodIn zbw (va_wsS own x (yM a) (zwsM yM bM lM tM a)) := fun w hw => by
      simp only [va_wsS, List.cons_append, List.nil_append, List.mem_cons] at hw
      rcases hw with rfl | rfl | rfl | hw
      · exact ⟨k9, zgood k9⟩
      · exact ⟨k8, zgood k8⟩
      · exact ⟨k4, zgood k4⟩
      · exact hGm w hw
    exact va_runS ⟨hx, hb, hml, hown, hts⟩ (hcall a k1 _ _ _ _ ho) (va_cwS b hts hG rfl rfl rfl k6 (zroom k1 k7 hR)) ⟨zblind, fun U hU hW => ⟨rfl, by rw [hU]; exact hP, va_K.moved hW.alike hK, zNE_warm hW hNE⟩⟩ rfl (by simp only [List.length_map, List.length_reverse]; exact g2) hl.2.1 hstk (lv_room (by rw [zcat_sum]; exact g3)) hdc hRc
  · exact va_runSN ⟨hx, hb, hml, hown, hts⟩ (hcall a k1 _ _ _ _ ho) ⟨va_cnB b hts hGm rfl rfl rfl (hNE _ k9) (hts _ k4) k6 (zroom k1 k7 hR), hts _ k8, trivial⟩ ⟨zblind, fun U hU hW => ⟨rfl, by rw [hU]; exact hP, va_K.moved hW.alike hK, zNE_warm hW hNE⟩⟩ rfl (by simp only [List.length_map, List.length_reverse]; exact g2) hl.2.1 hstk (lv_room (by rw [zcat_sum]; exact g3)) hdc hRc
end ZX
end
section
/-! Every step, the whole run, a method's contract. -/
section ZY
variable {p : Program} {l : Launch} {e : Env} {R : Room} {s : State} {m : MethodId} {args : Array Value} {below : List Frame} {meth : Method} {c : Code} {cells slots : Nat} {Q : State → Prop}
variable {ad : Nat → Nat} {cI cC cS : ClassId} {dC : Nat → ClassId} {dI : Nat → Nat → Nat} {A : Nat → Prop} {H0 : Heap} {nL : Nat} {cc : ByteArray} {own : String}
variable {yM : Nat → MethodName} {bM : Nat → ByteArray} {lM : Nat → Nat} {tM : Nat → Option FieldType} {mci : Nat → Nat}
variable {ls : zLs} {st : List zV} {h : zHp} {d : (Bool × Option Int32) ⊕ ((Bool × Nat × List zV × Nat × zLs × List zV) ⊕ (Bool × Option zN × Option zN))} {orc : zOr} {i : Nat} {r0 : Option Int32 × zHp}
/-- what holds in a frame of ours -/
def zFr (p : Program) (R : Room) (s : State) (m : MethodId) (args : Array Value) (c : Code) (cells slots : Nat) (ad : Nat → Nat) (cI cC cS : ClassId) (dC : Nat → ClassId) (dI : Nat → Nat → Nat) (A : Nat → Prop) (nL : Nat) (cc : ByteArray) (own : String) (i : Nat) : Prop :=
  p.tables.exec = Jvm.exec ∧ c.code = cc ∧ c.maxLocals = nL ∧ s.vm.findClass own = some m.cls ∧ (∀ w ∈ zbw, w.before args s = true) ∧ va_K (dC, dI) zCl (zty cI cC cS) s ∧ zNE s ∧ zap ad ∧ (∀ q, zAD ad q → A q) ∧ (i + 1 ≤ R.frames ∧ 60 * (i + 1) ≤ R.locals) ∧ (cells ≤ R.cells ∧ slots ≤ R.slots)
set_option maxHeartbeats 4000000 in
theorem zstep {sf rb : Bool} {scr : zSc} {q : zE} (F : zFr p R s m args c cells slots ad cI cC cS dC dI A nL cc own i)
    (hcall : ∀ j, j < i → zCT l dC dI ad cI cC cS yM bM lM tM j (orc j))
    (hsc : sf = true → va_X (ad 84) scr.1 scr.2 s H0 ∧ ad 84 < H0.size ∧ ¬ A (ad 84))
    (hretI : ∀ (pc : Nat) (x : Int32) (H : Heap) (locs : List Loc) (lj : Array Slot) (h : zHp), r0 = (some x, h) → (tM i).isSome = true → (rb = true → x = 0 ∨ x = 1) → decode cc pc = .ok (.ireturn, 1) → va_P (dC, dI) zCl (zWS ad cI cC cS h) H → va_S A H0 H locs → W p l e R s m args below meth c H locs cells slots Q (F0 m pc lj [.int x]))
    (hretV : ∀ (pc : Nat) (H : Heap) (locs : List Loc) (lj : Array Slot) (h : zHp), r0 = (none, h) → tM i = none → decode cc pc = .ok (.return_, 1) → va_P (dC, dI) zCl (zWS ad cI cC cS h) H → va_S A H0 H locs → W p l e R s m args below meth c H locs cells slots Q (F0 m pc lj []))
    (ok : zOK yM bM lM tM mci i own sf q) (hdc : decode cc q.1 = .ok (q.2.1, zlen q.2.2.1 q.2.1)) (hd : zstp mci rb scr q ls st h = some d) (hg : zG orc i r0 (zW p l e R s m args below meth c cells slots Q ad cI cC cS dC dI A H0 nL) h d) :
    zW p l e R s m args below meth c cells slots Q ad cI cC cS dC dI A H0 nL q.1 ls st h := by
  obtain ⟨hx, hb, hml, hown, hts, hK, hNE, hap, hA2, hR, hRc⟩ := F
  have hA : ∀ k, k < 84 → A (ad k) := fun k hk => hA2 _ ⟨k, hk, rfl⟩
  obtain ⟨pc, ins, len, v, t, a, b⟩ := q
  cases ins
  case iload_n k => exact zs_ldI hd hg (fun H locs lj x rest hl kk => lv_iload_n hx hb hdc rfl hl kk)
  case iload k => exact zs_ldI hd hg (fun H locs lj x rest hl kk => lv_iload hx hb hdc hl kk)
  case aload_n k => exact zs_ldA hd hg (fun H locs lj x rest hl kk => lv_aload_n hx hb hdc rfl hl kk)
  case istore_n k => exact zs_stI hd hg (fun H locs lj x rest lv hl hn kk => lv_istore_n hx hb hdc rfl hl hn rfl kk)
  case istore k => exact zs_stI hd hg (fun H locs lj x rest lv hl hn kk => lv_istore hx hb hdc hl hn rfl kk)
  case iconst n =>
    have hk := zG_go hd hg
    exact fun H locs lj hP hS hl => lv_iconst hx hb hdc ok (hk H locs lj hP hS hl)
  case bipush n =>
    have hk := zG_go hd hg
    exact fun H locs lj hP hS hl => lv_bipush hx hb hdc ok (hk H locs lj hP hS hl)
  case sipush n =>
    have hk := zG_go hd hg
    exact fun H locs lj hP hS hl => lv_sipush hx hb hdc ok (hk H locs lj hP hS hl)
  case ldc_w n =>
    have hk := zG_go hd hg
    exact fun H locs lj hP hS hl => lv_ldcw hx hb hown (hts _ ok) hdc (hk H locs lj hP hS hl)
  case iadd => exact zs_op hd hg (fun H locs lj x y rest kk => lv_iadd hx hb hdc kk)
  case isub => exact zs_op hd hg (fun H locs lj x y rest kk => lv_isub hx hb hdc kk)
  case imul => exact zs_op hd hg (fun H locs lj x y rest kk => lv_imul hx hb hdc kk)
  case iand => exact zs_op hd hg (fun H locs lj x y rest kk => lv_iand hx hb hdc kk)
  case ior => exact zs_op hd hg (fun H locs lj x y rest kk => lv_ior hx hb hdc kk)
  case ixor => exact zs_op hd hg (fun H locs lj x y rest kk => lv_ixor hx hb hdc kk)
  case ishl => exact zs_op hd hg (fun H locs lj x y rest kk => lv_ishl hx hb hdc kk)
  case ishr => exact zs_op hd hg (fun H locs lj x y rest kk => lv_ishr hx hb hdc kk)
  case iushr => exact zs_op hd hg (fun H locs lj x y rest kk => lv_iushr hx hb hdc rfl kk)
  case idiv => exact zs_dv hd hg (fun H locs lj x y rest hy kk => lv_idiv hx hb hdc hy kk)
  case irem => exact zs_dv hd hg (fun H locs lj x y rest hy kk => lv_irem hx hb hdc hy kk)
  case iinc k n =>
    replace hd : zinc ls k (pc + 3) v st h = some d := hd
    unfold zinc at hd
    split at hd
    · rename_i x hxx
      obtain ⟨hbb, hk⟩ := zG_if hd hg
      have hlt : k < ls.length := Nat.blt_eq.mp hbb
      intro H locs lj hP hS hl
      have hlt2 : k < nL := by rw [← hl.1]; exact hlt
      have hmem := zll_mem (ad := ad) ls 0 k hxx
      rw [Nat.zero_add] at hmem
      obtain ⟨n0, hn0⟩ := List.getElem?_of_mem hmem
      refine lv_iinc hx hb hdc hl.2 hn0 (v := x + v) (by rw [show Int32.ofInt n = v from ok]) hlt2 rfl (fun lj' hl' => ?_)
      exact hk H locs lj' hP hS (zLR_set (lj := lj) (v := .inl (x + v)) hl.1 hlt2 hl')
    · cases hd
  case i2c =>
    match st, hd with
    | .inl x :: r, hd =>
      have hk := zG_go hd hg
      exact fun H locs lj hP hS hl => lv_i2c hx hb hdc rfl (hk H locs lj hP hS hl)
    | [], hd => cases hd
    | .inr _ :: _, hd => cases hd
  case if_icmp cd off =>
    match st, hd with
    | .inl y :: .inl x :: r, hd => exact zs_icmp hx hb hdc ok hd hg
    | [], hd => cases hd
    | [_], hd => first | cases hd | (rename_i w; cases w <;> cases hd)
    | .inr _ :: _ :: _, hd => cases hd
    | .inl _ :: .inr _ :: _, hd => cases hd
  case ifCond cd off =>
    match st, hd with
    | .inl x :: r, hd => exact zs_if hx hb hdc ok hd hg
    | [], hd => cases hd
    | .inr _ :: _, hd => cases hd
  case goto off =>
    have hk := zG_go hd hg
    exact fun H locs lj hP hS hl => lv_goto hx hb hdc ok (hk H locs lj hP hS hl)
  case tableswitch df lo hi offs =>
    match st, hd with
    | .inl x :: r, hd =>
      cases hd
      obtain ⟨g1, g2⟩ := hg
      intro H locs lj hP hS hl
      by_cases hc : x.toInt < lo ∨ hi < x.toInt
      · obtain ⟨n, e1, e2⟩ := g1 (by rcases hc with q | q <;> simp [q])
        cases e1
        exact lv_tableOut hx hb hdc hc ok (e2 H locs lj hP hS hl)
      · have hc1 : ¬ x.toInt < lo := fun q => hc (Or.inl q)
        have hc2 : ¬ hi < x.toInt := fun q => hc (Or.inr q)
        obtain ⟨n, e1, e2⟩ := g2 (by simp [hc1, hc2])
        split at e1
        · rename_i off ho
          split at e1
          · rename_i hpos
            cases e1
            exact lv_tableIn hx hb hdc hc1 hc2 ho (by omega) (e2 H locs lj hP hS hl)
          · cases e1
        · cases e1
    | [], hd => cases hd
    | .inr _ :: _, hd => cases hd
  case dup =>
    match st, hd with
    | x :: r, hd =>
      have hk := zG_go hd hg
      exact fun H locs lj hP hS hl => lv_dup hx hb hdc (ztr_cat ad x) (hk H locs lj hP hS hl)
    | [], hd => cases hd
  case dup2 =>
    match st, hd with
    | x :: y :: r, hd =>
      have hk := zG_go hd hg
      exact fun H locs lj hP hS hl => lv_dup2_11 hx hb hdc (ztr_cat ad x) (ztr_cat ad y) (hk H locs lj hP hS hl)
    | [], hd => cases hd
    | [_], hd => cases hd
  case pop =>
    match st, hd with
    | x :: r, hd =>
      have hk := zG_go hd hg
      exact fun H locs lj hP hS hl => lv_pop hx hb hdc (ztr_cat ad x) (hk H locs lj hP hS hl)
    | [], hd => cases hd
  case getfield x =>
    match st, hd with
    | .inr o :: r, hd => exact zs_get hx hb hown hts hK hdc ok hd hg
    | [], hd => cases hd
    | .inl _ :: _, hd => cases hd
  case putfield x =>
    match st, hd with
    | .inl y :: .inr o :: r, hd => exact zs_put hx hb hown hts hK hap hA hdc ok hd hg
    | [], hd => cases hd
    | [_], hd => first | cases hd | (rename_i w; cases w <;> cases hd)
    | .inr _ :: _ :: _, hd => cases hd
    | .inl _ :: .inl _ :: _, hd => cases hd
  case iaload =>
    match st, hd with
    | .inl x :: .inr o :: r, hd =>
      rcases ok with ok | ⟨ok, hsf⟩
      · subst ok
        exact zs_iald hx hb hK hdc hd hg
      · subst ok
        obtain ⟨hbb, hk⟩ := zG_if hd hg
        rw [Bool.and_eq_true] at hbb
        have ho := Nat.eq_of_beq_eq_true hbb.1
        subst ho
        obtain ⟨h2, h3, h4⟩ := hsc hsf
        intro H locs lj hP hS hl
        exact va_sld hx hb h2 h3 h4 hS (zib_in hbb.2) hdc (hk H locs lj hP hS hl)
    | [], hd => cases hd
    | [_], hd => first | cases hd | (rename_i w; cases w <;> cases hd)
    | .inr _ :: _ :: _, hd => cases hd
    | .inl _ :: .inl _ :: _, hd => cases hd
  case arraylength =>
    match st, hd with
    | .inr o :: r, hd =>
      obtain ⟨hbb, hk⟩ := zG_if hd hg
      rw [Bool.and_eq_true] at hbb
      have ho := Nat.eq_of_beq_eq_true hbb.2
      subst ho
      obtain ⟨h2, h3, h4⟩ := hsc ok
      intro H locs lj hP hS hl
      exact va_slen hx hb h2 h3 h4 hS hdc (hk H locs lj hP hS hl)
    | [], hd => cases hd
    | .inl _ :: _, hd => cases hd
  case caload =>
    match st, hd with
    | .inl x :: .inr o :: r, hd => exact zs_cald hx hb hK hdc hd hg
    | [], hd => cases hd
    | [_], hd => first | cases hd | (rename_i w; cases w <;> cases hd)
    | .inr _ :: _ :: _, hd => cases hd
    | .inl _ :: .inl _ :: _, hd => cases hd
  case aaload =>
    match st, hd with
    | .inl x :: .inr o :: r, hd => exact zs_aald hx hb hK hdc hd hg
    | [], hd => cases hd
    | [_], hd => first | cases hd | (rename_i w; cases w <;> cases hd)
    | .inr _ :: _ :: _, hd => cases hd
    | .inl _ :: .inl _ :: _, hd => cases hd
  case iastore =>
    match st, hd with
    | .inl y :: .inl x :: .inr o :: r, hd => exact zs_iast hx hb hK hap hA hdc hd hg
    | [], hd => cases hd
    | [_], hd => first | cases hd | (rename_i w; cases w <;> cases hd)
    | [w1, w2], hd => first | cases hd | (cases w1 <;> first | cases hd | (cases w2 <;> cases hd))
    | .inr _ :: _ :: _ :: _, hd => cases hd
    | .inl _ :: .inr _ :: _ :: _, hd => cases hd
    | .inl _ :: .inl _ :: .inl _ :: _, hd => cases hd
  case castore =>
    match st, hd with
    | .inl y :: .inl x :: .inr o :: r, hd => exact zs_cast hx hb hK hap hA hdc hd hg
    | [], hd => cases hd
    | [_], hd => first | cases hd | (rename_i w; cases w <;> cases hd)
    | [w1, w2], hd => first | cases hd | (cases w1 <;> first | cases hd | (cases w2 <;> cases hd))
    | .inr _ :: _ :: _ :: _, hd => cases hd
    | .inl _ :: .inr _ :: _ :: _, hd => cases hd
    | .inl _ :: .inl _ :: .inl _ :: _, hd => cases hd
  case ireturn =>
    match st, hd with
    | [.inl x], hd =>
      cases hd
      obtain ⟨hbb, he⟩ := hg
      refine fun H locs lj hP hS hl => hretI pc x H locs lj h he ok (fun hr => ?_) hdc hP hS
      subst hr
      simpa using hbb
    | [], hd => cases hd
    | [.inr _], hd => cases hd
    | .inl _ :: _ :: _, hd => cases hd
    | .inr _ :: _ :: _, hd => cases hd
  case return_ =>
    match st, hd with
    | [], hd =>
      cases hd
      obtain ⟨hbb, he⟩ := hg
      exact fun H locs lj hP hS hl => hretV pc H locs lj h he ok hdc hP hS
    | _ :: _, hd => cases hd
  case invokevirtual x => exact zs_callV hx hb hml hown hts hK hNE hA2 hR hRc hcall hdc ok hd hg
  case invokestatic x =>
    rcases ok with ⟨rfl, k1, k2, k3, k4⟩ | ⟨rfl, k1, k2, k3, k4⟩ | ⟨rfl, ok⟩ | ⟨rfl, k1, k2, k3, k4⟩ | ⟨rfl, k1, k2, k3, k4⟩
    · match st, hd with
      | .inl y :: .inl x :: r, hd =>
        obtain ⟨hbb, hk⟩ := zG_if hd hg
        have h8 := Nat.le_of_ble_eq_true hbb
        intro H locs lj hP hS hl
        exact va_mmin hx hb (by rw [hml]; exact hl.2.1.symm) hown (hts _ k1) (hts _ k2) (hts _ k3) (hts _ k4) (by omega) (by rw [zcat_sum]; omega) hRc.1 hRc.2 hdc (hk H locs lj hP hS hl)
      | [], hd => cases hd
      | [_], hd => first | cases hd | (rename_i w; cases w <;> cases hd)
      | .inr _ :: _ :: _, hd => cases hd
      | .inl _ :: .inr _ :: _, hd => cases hd
    · match st, hd with
      | .inl y :: .inl x :: r, hd =>
        obtain ⟨hbb, hk⟩ := zG_if hd hg
        have h8 := Nat.le_of_ble_eq_true hbb
        intro H locs lj hP hS hl
        exact va_mmax hx hb (by rw [hml]; exact hl.2.1.symm) hown (hts _ k1) (hts _ k2) (hts _ k3) (hts _ k4) (by omega) (by rw [zcat_sum]; omega) hRc.1 hRc.2 hdc (hk H locs lj hP hS hl)
      | [], hd => cases hd
      | [_], hd => first | cases hd | (rename_i w; cases w <;> cases hd)
      | .inr _ :: _ :: _, hd => cases hd
      | .inl _ :: .inr _ :: _, hd => cases hd
    · replace hd : zstp mci rb scr (pc, .invokestatic x, len, v, 5, a, b) ls st h = some d := hd
      simp only [zstp] at hd
      split at hd
      · exact zs_copy hx hb hml hown hts hK hap hA (by omega) hdc ok hd hg
      · cases hd
    · exact zs_callS hx hb hml hown hts hK hNE hA2 hR hRc hcall hdc k1 k2 k3 (Or.inl k4) hd hg
    · exact zs_callS hx hb hml hown hts hK hNE hA2 hR hRc hcall hdc k1 k2 k3 (Or.inr k4) hd hg
  all_goals cases (show (none : zD) = some d from hd)
set_option maxHeartbeats 1000000 in
/-- the whole run of a frame -/
theorem zsound {sf rb : Bool} {scr : zSc} {code : List zE} (F : zFr p R s m args c cells slots ad cI cC cS dC dI A nL cc own i)
    (hcall : ∀ j, j < i → zCT l dC dI ad cI cC cS yM bM lM tM j (orc j))
    (hsc : sf = true → va_X (ad 84) scr.1 scr.2 s H0 ∧ ad 84 < H0.size ∧ ¬ A (ad 84))
    (hretI : ∀ (pc : Nat) (x : Int32) (H : Heap) (locs : List Loc) (lj : Array Slot) (h : zHp), r0 = (some x, h) → (tM i).isSome = true → (rb = true → x = 0 ∨ x = 1) → decode cc pc = .ok (.ireturn, 1) → va_P (dC, dI) zCl (zWS ad cI cC cS h) H → va_S A H0 H locs → W p l e R s m args below meth c H locs cells slots Q (F0 m pc lj [.int x]))
    (hretV : ∀ (pc : Nat) (H : Heap) (locs : List Loc) (lj : Array Slot) (h : zHp), r0 = (none, h) → tM i = none → decode cc pc = .ok (.return_, 1) → va_P (dC, dI) zCl (zWS ad cI cC cS h) H → va_S A H0 H locs → W p l e R s m args below meth c H locs cells slots Q (F0 m pc lj []))
    (hok : ∀ q ∈ code, zOK yM bM lM tM mci i own sf q) (hdec : ∀ q ∈ code, decode cc q.1 = .ok (q.2.1, zlen q.2.2.1 q.2.1)) :
    ∀ (pc : Nat) (ls : zLs) (st : List zV) (h : zHp), zrun mci code rb scr orc pc ls st h = some r0 → zW p l e R s m args below meth c cells slots Q ad cI cC cS dC dI A H0 nL pc ls st h := by
  intro pc ls st h hrun
  refine zrun.partial_correctness mci code rb scr orc (fun pc ls st h r => r = r0 → zW p l e R s m args below meth c cells slots Q ad cI cC cS dC dI A H0 nL pc ls st h) ?_ pc ls st h r0 hrun rfl
  intro run ih pc ls st h r hr he
  subst he
  split at hr
  · cases hr
  · rename_i q hq
    obtain ⟨hm, rfl⟩ := zlook_mem _ _ _ hq
    split at hr
    · cases hr
    · rename_i b v hs
      refine zstep F hcall hsc hretI hretV (hok q hm) (hdec q hm) hs ?_
      split at hr
      · rename_i hb
        cases hr
        exact ⟨hb, rfl⟩
      · cases hr
    · rename_i b j as pc' ls' rest hs
      refine zstep F hcall hsc hretI hretV (hok q hm) (hdec q hm) hs ?_
      split at hr
      · rename_i hb
        obtain ⟨q2, h1, h2⟩ := Option.bind_eq_some_iff.mp hr
        exact ⟨hb, q2, h1, ih _ _ _ _ _ h2 rfl⟩
      · cases hr
    · rename_i b n1 n2 hs
      refine zstep F hcall hsc hretI hretV (hok q hm) (hdec q hm) hs ?_
      split at hr
      · rename_i hb
        split at hr
        · cases hr
        · rename_i n
          exact ⟨fun _ => ⟨n, rfl, ih _ _ _ _ _ hr rfl⟩, fun q => by rw [hb] at q; cases q⟩
      · rename_i hb
        split at hr
        · cases hr
        · rename_i n
          exact ⟨fun q => absurd q hb, fun _ => ⟨n, rfl, ih _ _ _ _ _ hr rfl⟩⟩
end ZY
end
section
/-! A method's contract out of the small machine's run of its code. -/
def zargs (n : Nat) (as : List zV) : zLs := as.map some ++ List.replicate (n - as.length) none
/-- the method of 'n' locals, as a function -/
def zfun (mci : Nat → Nat) (code : List zE) (rb : Bool) (orc : zOr) (n : Nat) (as : List zV) (h : zHp) : zRs := if Nat.ble as.length n then zrun mci code rb (0, fun _ => 0) orc 0 (zargs n as) [] h else none
theorem zll_args {ad : Nat → Nat} : ∀ (as : List zV) (i k : Nat), zll ad i (as.map some ++ List.replicate k none) = lv_args i (as.map (ztr ad)) := by
  intro as
  induction as with
  | nil =>
    intro i k
    induction k generalizing i with
    | zero => rfl
    | succ k ih => exact ih (i + 1)
  | cons a t ih =>
    intro i k
    show (i, ztr ad a) :: zll ad (i + 1) (t.map some ++ List.replicate k none) = _
    rw [ih]
    have h1 : ¬ (ztr ad a).category = 2 := by rw [ztr_cat]; decide
    simp only [List.map_cons, lv_args, if_neg h1]
theorem zlg_len {ad : Nat → Nat} (as : List zV) : (lg_sl (as.map (ztr ad))).length = as.length := by
  induction as with
  | nil => rfl
  | cons a t ih =>
    have h1 : ¬ (ztr ad a).category = 2 := by rw [ztr_cat]; decide
    simp only [lg_sl, List.map_cons, List.flatMap_cons, if_neg h1, List.length_append, List.length_cons, List.length_nil] at ih ⊢
    omega
set_option maxHeartbeats 1000000 in
theorem zMet {l : Launch} {dC : Nat → ClassId} {dI : Nat → Nat → Nat} {ad : Nat → Nat} {cI cC cS : ClassId} {yM : Nat → MethodName} {bM : Nat → ByteArray} {lM : Nat → Nat} {tM : Nat → Option FieldType} {mci : Nat → Nat} {orc : zOr} {i : Nat} {rb : Bool} {code : List zE} (hap : zap ad)
    (hcall : ∀ j, j < i → zCT l dC dI ad cI cC cS yM bM lM tM j (orc j)) (hplain : plainName (yM i).cls = true) (ht : tM i = none ∨ (tM i = some .int ∧ rb = false) ∨ (tM i = some .boolean ∧ rb = true))
    (hok : ∀ q ∈ code, zOK yM bM lM tM mci i (yM i).cls false q) (hdec : ∀ q ∈ code, decode (bM i) q.1 = .ok (q.2.1, zlen q.2.2.1 q.2.1)) :
    zCT l dC dI ad cI cC cS yM bM lM tM i (zfun mci code rb orc (lM i)) := by
  intro as h r h' hrun
  unfold zfun at hrun
  split at hrun
  · rename_i hle
    have hle := Nat.le_of_ble_eq_true hle
    refine Met.ofW (cc := bM i) (maxL := lM i) (ret := tM i) hplain rfl ?_
    intro p e s m args below meth c s₁ B hml hv
    obtain ⟨rfl, hP, hK, hNE⟩ := hv
    have hx := B.exec
    have hb := B.bytes
    have hr := B.returns
    have hlocks := B.notSynchronized
    have hts0 := atoms_spec (ws := zwsM yM bM lM tM i) B.pre
    have hts : ∀ w ∈ zbw, w.before (as.map (ztr ad)).toArray s = true := fun w hw => hts0 w (List.mem_cons_of_mem _ hw)
    have hown : s.vm.findClass (yM i).cls = some m.cls := findClass_of_methodNamed B.named
    have hS : va_S (zAD ad) s.heap s.heap [] := va_S.rf
    have hl := lv_entry (as.map (ztr ad)) (n := lM i) (by rw [zlg_len]; exact hle)
    rw [lg_entry_eq]
    have hlr : zLR ad ((lg_sl (as.map (ztr ad)) ++ List.replicate (lM i - (lg_sl (as.map (ztr ad))).length) Slot.unset).toArray) (lM i) (zargs (lM i) as) := by
      refine ⟨by simp [zargs]; omega, ?_⟩
      unfold zargs
      rw [zll_args]
      exact hl
    have F : zFr p (zrm i) s m (as.map (ztr ad)).toArray c 0 0 ad cI cC cS dC dI (zAD ad) (lM i) (bM i) (yM i).cls i := ⟨hx, hb, hml, hown, hts, hK, hNE, hap, fun _ h => h, ⟨Nat.le_refl _, Nat.le_refl _⟩, ⟨Nat.le_refl _, Nat.le_refl _⟩⟩
    refine zsound (r0 := (r, h')) (H0 := s.heap) (Q := MQ below (zQ dC dI ad cI cC cS r h') (as.map (ztr ad)).toArray s 0 0 (zAD ad)) (sf := false) F hcall (fun q => by cases q) ?_ ?_ hok hdec 0 _ [] h hrun s.heap [] _ hP hS hlr
    · intro pc x H locs lj h2 he hsome hrb hdc hP2 hS2
      cases he
      have hnar : ∃ ty, tM i = some ty ∧ narrow ty (.int x) = .int x := by
        rcases ht with q | ⟨q, q2⟩ | ⟨q, q2⟩
        · rw [q] at hsome
          cases hsome
        · exact ⟨_, q, rfl⟩
        · refine ⟨_, q, ?_⟩
          rcases hrb q2 with rfl | rfl <;> decide
      obtain ⟨ty, q1, q2⟩ := hnar
      exact W.zret (ty := ty) hx hb (hr.trans q1) q2 (fun t ht hW => ⟨⟨x, (), rfl, rfl, by rw [ht]; exact hP2, va_K.moved hW.alike hK, zNE_warm hW hNE⟩, hS2.F ht⟩) hS2.2.2 hdc hlocks
    · intro pc H locs lj h2 he hn hdc hP2 hS2
      cases he
      exact W.vret hx hb (hr.trans hn) (fun t ht hW => ⟨⟨(), rfl, trivial, by rw [ht]; exact hP2, va_K.moved hW.alike hK, zNE_warm hW hNE⟩, hS2.F ht⟩) hS2.2.2 hdc hlocks
  · cases hrun
end
section
/-! the methods by number: names, codes, locals, answers; what a call wants of the tables -/
def zyL : List MethodName := [⟨zR6, "in", "(III)Z"⟩, ⟨zR6, "isColour", "(I)Z"⟩, ⟨zR6, "record", "()V"⟩, ⟨zR6, "puts", "(III)V"⟩, ⟨zR6, "addCountry", "(II)I"⟩, ⟨zR6, "of", "(II)I"⟩, ⟨zR6, "isThere", "(I)Z"⟩, ⟨zR6, "no", "(I)Z"⟩, ⟨zR6, "length", "(II)I"⟩, ⟨zR6, "isBad", "(II)Z"⟩, ⟨zR6, "isConflict", "(II)Z"⟩, ⟨zR6, "conflicts", "(I)I"⟩, ⟨zR6, "isWrong", "(I)Z"⟩, ⟨zR6, "wrongs", "()I"⟩, ⟨zR6, "paint", "(II)I"⟩, ⟨zR6, "allow", "(II)I"⟩, ⟨zR6, "set", "(I)I"⟩, ⟨zR6, "bits", "(I)I"⟩, ⟨zR6, "fix", "(IZ)I"⟩, ⟨zR6, "overBorders", "(I)I"⟩, ⟨zR6, "forbid", "(IIZ)I"⟩, ⟨zR6, "code", "(II)I"⟩, ⟨zR6, "lays", "(III)V"⟩, ⟨zR6, "setBorder", "(III)I"⟩, ⟨zR6, "isBetween", "(II)Z"⟩, ⟨zR6, "takes", "(I)Z"⟩, ⟨zR6, "takesBorder", "()Z"⟩, ⟨zR6, "bordersOfText", "()I"⟩, ⟨zR6, "readBorders", "()I"⟩, ⟨zR6, "neighbours", "(I)I"⟩, ⟨zR6, "join", "(II)I"⟩, ⟨zR6, "give", "(IIII)I"⟩, ⟨zR6, "meets", "()V"⟩, ⟨zR6, "areNeighbours", "(II)Z"⟩, ⟨zR6, "fits", "(I)Z"⟩, ⟨zR6, "goesThrough", "()V"⟩, ⟨zR6, "repaint", "()I"⟩, ⟨zR6, "isBarred", "(II)Z"⟩, ⟨zR6, "chainOf", "(II)I"⟩, ⟨zR6, "exchange", "(II)I"⟩, ⟨zR6, "type", "(C)I"⟩, ⟨zR6, "clearText", "()I"⟩, ⟨zR6, "undo", "()I"⟩, ⟨zR6, "keep", "()I"⟩, ⟨zR6, "restore", "()I"⟩, ⟨zR6, "lengths", "(I)I"⟩, ⟨zR6, "could", "(I)I"⟩, ⟨zR6, "country", "(II)I"⟩, ⟨zR6, "border", "(II)I"⟩, ⟨zR6, "borderAt", "(I)I"⟩, ⟨zR6, "forbidden", "(II)I"⟩, ⟨zR6, "changed", "()I"⟩, ⟨zR6, "leastRepaint", "(I)I"⟩, ⟨zR6, "repainted", "(I)I"⟩, ⟨zR6, "wouldCost", "(II)I"⟩, ⟨zR6, "repaints", "()I"⟩, ⟨zR6, "freedom", "(I)I"⟩, ⟨zR6, "fewestColours", "()I"⟩, ⟨zR6, "chain", "(II)I"⟩, ⟨zR6, "different", "()I"⟩, ⟨zR6, "pairs", "()I"⟩, ⟨zR6, "count", "(I)I"⟩, ⟨zR5, "isColour", "(I)Z"⟩, ⟨zR1, "copyFrom", "(LBorderPaints$Borders;)V"⟩, ⟨zR4, "copyFrom", "(LBorderPaints$State;)V"⟩, ⟨zR2, "remember", "(LBorderPaints$State;)V"⟩, ⟨zR5, "isNumber", "(I)Z"⟩, ⟨zR4, "add", "(II)I"⟩, ⟨zR5, "addCountry", "(II)I"⟩, ⟨zR5, "has", "(II)Z"⟩, ⟨zR4, "isThere", "(I)Z"⟩, ⟨zR4, "isFixed", "(I)Z"⟩, ⟨zR1, "neighboursOf", "(I)I"⟩, ⟨zR4, "isPairForbidden", "(II)Z"⟩, ⟨zR4, "conflictsOf", "(I)I"⟩, ⟨zR4, "isWrong", "(I)Z"⟩, ⟨zR4, "wrongCountries", "()I"⟩, ⟨zR5, "paint", "(II)I"⟩, ⟨zR5, "allow", "(II)I"⟩, ⟨"java/lang/Integer", "bitCount", "(I)I"⟩, ⟨zR5, "fix", "(IZ)I"⟩, ⟨zR4, "setPair", "(IIZ)V"⟩, ⟨zR4, "isConflictAt", "(I)Z"⟩, ⟨zR4, "conflicts", "()I"⟩, ⟨zR5, "forbid", "(IIZ)I"⟩, ⟨zR1, "placeOf", "(II)I"⟩, ⟨zR1, "lengthBetween", "(II)I"⟩, ⟨zR1, "removeAt", "(I)V"⟩, ⟨zR1, "put", "(III)V"⟩, ⟨zR5, "setBorder", "(III)I"⟩, ⟨zR0, "isDigitAt", "(I)Z"⟩, ⟨zR0, "isSignAt", "(IC)Z"⟩, ⟨zR0, "digitAt", "(I)I"⟩, ⟨zR0, "faultInBorder", "(I)I"⟩, ⟨zR0, "takeBorder", "(II)I"⟩, ⟨zR0, "read", "()I"⟩, ⟨zR5, "readBorders", "()I"⟩, ⟨zR5, "canJoin", "(II)Z"⟩, ⟨zR1, "firstNeighbourOf", "(I)I"⟩, ⟨zR4, "merge", "(II)V"⟩, ⟨zR5, "join", "(II)I"⟩, ⟨zR5, "give", "(IIII)I"⟩, ⟨zR3, "prepare", "(LBorderPaints$State;)V"⟩, ⟨zR3, "coloursFor", "(I)I"⟩, ⟨zR3, "findLeastFrom", "(LBorderPaints$Repainter;II)V"⟩, ⟨zR3, "findLeastFrom", "(LBorderPaints$Repainter;II)V"⟩, ⟨zR3, "findLeastFrom", "(LBorderPaints$Repainter;II)V"⟩, ⟨zR3, "findLeastFrom", "(LBorderPaints$Repainter;II)V"⟩, ⟨zR3, "findLeastFrom", "(LBorderPaints$Repainter;II)V"⟩, ⟨zR3, "findLeastFrom", "(LBorderPaints$Repainter;II)V"⟩, ⟨zR3, "findLeastFrom", "(LBorderPaints$Repainter;II)V"⟩, ⟨zR3, "findLeastFrom", "(LBorderPaints$Repainter;II)V"⟩, ⟨zR3, "findLeastFrom", "(LBorderPaints$Repainter;II)V"⟩, ⟨zR3, "findLeastFrom", "(LBorderPaints$Repainter;II)V"⟩, ⟨zR3, "findLeast", "()Z"⟩, ⟨zR5, "repaint", "()I"⟩, ⟨zR4, "withEitherColour", "(II)I"⟩, ⟨zR4, "chainOf", "(II)I"⟩, ⟨zR4, "canExchange", "(III)Z"⟩, ⟨zR4, "exchangeColours", "(III)V"⟩, ⟨zR5, "exchange", "(II)I"⟩, ⟨zR0, "append", "(C)V"⟩, ⟨zR5, "type", "(C)I"⟩, ⟨zR5, "clearText", "()I"⟩, ⟨zR2, "takeLatest", "(LBorderPaints$State;)V"⟩, ⟨zR5, "undo", "()I"⟩, ⟨zR5, "keep", "()I"⟩, ⟨zR5, "restore", "()I"⟩, ⟨zR1, "lengthAround", "(I)I"⟩, ⟨zR4, "coloursWithoutWrong", "(I)I"⟩, ⟨zR5, "country", "(II)I"⟩, ⟨zR5, "border", "(II)I"⟩, ⟨zR5, "borderAt", "(I)I"⟩, ⟨zR5, "forbidden", "(II)I"⟩, ⟨zR3, "changedCountries", "()I"⟩, ⟨zR5, "leastRepaint", "(I)I"⟩, ⟨zR5, "repainted", "(I)I"⟩, ⟨zR3, "supposeBorder", "(II)V"⟩, ⟨zR5, "wouldCost", "(II)I"⟩, ⟨zR3, "bindsLaterOnes", "(I)Z"⟩, ⟨zR3, "countFrom", "(LBorderPaints$Repainter;I)I"⟩, ⟨zR3, "countFrom", "(LBorderPaints$Repainter;I)I"⟩, ⟨zR3, "countFrom", "(LBorderPaints$Repainter;I)I"⟩, ⟨zR3, "countFrom", "(LBorderPaints$Repainter;I)I"⟩, ⟨zR3, "countFrom", "(LBorderPaints$Repainter;I)I"⟩, ⟨zR3, "countFrom", "(LBorderPaints$Repainter;I)I"⟩, ⟨zR3, "countFrom", "(LBorderPaints$Repainter;I)I"⟩, ⟨zR3, "countFrom", "(LBorderPaints$Repainter;I)I"⟩, ⟨zR3, "countFrom", "(LBorderPaints$Repainter;I)I"⟩, ⟨zR3, "countFrom", "(LBorderPaints$Repainter;I)I"⟩, ⟨zR3, "countAll", "()I"⟩, ⟨zR5, "repaints", "()I"⟩, ⟨zR3, "canPaintFrom", "(LBorderPaints$Repainter;I)Z"⟩, ⟨zR3, "canPaintFrom", "(LBorderPaints$Repainter;I)Z"⟩, ⟨zR3, "canPaintFrom", "(LBorderPaints$Repainter;I)Z"⟩, ⟨zR3, "canPaintFrom", "(LBorderPaints$Repainter;I)Z"⟩, ⟨zR3, "canPaintFrom", "(LBorderPaints$Repainter;I)Z"⟩, ⟨zR3, "canPaintFrom", "(LBorderPaints$Repainter;I)Z"⟩, ⟨zR3, "canPaintFrom", "(LBorderPaints$Repainter;I)Z"⟩, ⟨zR3, "canPaintFrom", "(LBorderPaints$Repainter;I)Z"⟩, ⟨zR3, "canPaintFrom", "(LBorderPaints$Repainter;I)Z"⟩, ⟨zR3, "canPaintFrom", "(LBorderPaints$Repainter;I)Z"⟩, ⟨zR3, "canPaint", "()Z"⟩, ⟨zR5, "freedom", "(I)I"⟩, ⟨zR3, "keepOpen", "(I)V"⟩, ⟨zR5, "fewestColours", "()I"⟩, ⟨zR5, "chain", "(II)I"⟩, ⟨zR4, "lengthOfBorders", "(Z)I"⟩, ⟨zR4, "differentColours", "()I"⟩, ⟨zR4, "forbiddenPairs", "()I"⟩, ⟨zR5, "count", "(I)I"⟩, ⟨"BorderPaintsLaw", "law", "([I)Z"⟩]
def zbL : List ByteArray := [prog_8_method_2_code, prog_8_method_8_code, prog_8_method_10_code, prog_8_method_4_code, prog_8_method_18_code, prog_8_method_3_code, prog_8_method_5_code, prog_8_method_6_code, prog_8_method_7_code, prog_8_method_9_code, prog_8_method_13_code, prog_8_method_14_code, prog_8_method_15_code, prog_8_method_16_code, prog_8_method_19_code, prog_8_method_20_code, prog_8_method_21_code, prog_8_method_22_code, prog_8_method_23_code, prog_8_method_17_code, prog_8_method_24_code, prog_8_method_11_code, prog_8_method_12_code, prog_8_method_25_code, prog_8_method_39_code, prog_8_method_40_code, prog_8_method_41_code, prog_8_method_42_code, prog_8_method_43_code, prog_8_method_26_code, prog_8_method_27_code, prog_8_method_28_code, prog_8_method_31_code, prog_8_method_29_code, prog_8_method_30_code, prog_8_method_32_code, prog_8_method_33_code, prog_8_method_35_code, prog_8_method_34_code, prog_8_method_36_code, prog_8_method_37_code, prog_8_method_38_code, prog_8_method_44_code, prog_8_method_45_code, prog_8_method_46_code, prog_8_method_47_code, prog_8_method_48_code, prog_8_method_49_code, prog_8_method_50_code, prog_8_method_51_code, prog_8_method_52_code, prog_8_method_53_code, prog_8_method_54_code, prog_8_method_55_code, prog_8_method_56_code, prog_8_method_57_code, prog_8_method_58_code, prog_8_method_59_code, prog_8_method_60_code, prog_8_method_61_code, prog_8_method_62_code, prog_8_method_63_code, prog_1_method_31_code, prog_3_method_2_code, prog_6_method_2_code, prog_4_method_2_code, prog_1_method_32_code, prog_6_method_5_code, prog_1_method_2_code, prog_1_method_33_code, prog_6_method_3_code, prog_6_method_4_code, prog_3_method_7_code, prog_6_method_6_code, prog_6_method_12_code, prog_6_method_13_code, prog_6_method_14_code, prog_1_method_3_code, prog_1_method_4_code, prog_9_method_49_code, prog_1_method_5_code, prog_6_method_7_code, prog_6_method_9_code, prog_6_method_10_code, prog_1_method_6_code, prog_3_method_3_code, prog_3_method_4_code, prog_3_method_6_code, prog_3_method_5_code, prog_1_method_7_code, prog_2_method_4_code, prog_2_method_3_code, prog_2_method_5_code, prog_2_method_7_code, prog_2_method_8_code, prog_2_method_6_code, prog_1_method_8_code, prog_1_method_10_code, prog_3_method_8_code, prog_6_method_17_code, prog_1_method_9_code, prog_1_method_11_code, prog_5_method_2_code, prog_5_method_5_code, prog_5_method_12_code, prog_5_method_12_code, prog_5_method_12_code, prog_5_method_12_code, prog_5_method_12_code, prog_5_method_12_code, prog_5_method_12_code, prog_5_method_12_code, prog_5_method_12_code, prog_5_method_12_code, prog_5_method_11_code, prog_1_method_12_code, prog_6_method_18_code, prog_6_method_19_code, prog_6_method_20_code, prog_6_method_21_code, prog_1_method_13_code, prog_2_method_2_code, prog_1_method_14_code, prog_1_method_15_code, prog_4_method_3_code, prog_1_method_16_code, prog_1_method_17_code, prog_1_method_18_code, prog_3_method_9_code, prog_6_method_15_code, prog_1_method_19_code, prog_1_method_20_code, prog_1_method_21_code, prog_1_method_22_code, prog_5_method_13_code, prog_1_method_23_code, prog_1_method_24_code, prog_5_method_3_code, prog_1_method_25_code, prog_5_method_6_code, prog_5_method_8_code, prog_5_method_8_code, prog_5_method_8_code, prog_5_method_8_code, prog_5_method_8_code, prog_5_method_8_code, prog_5_method_8_code, prog_5_method_8_code, prog_5_method_8_code, prog_5_method_8_code, prog_5_method_7_code, prog_1_method_26_code, prog_5_method_10_code, prog_5_method_10_code, prog_5_method_10_code, prog_5_method_10_code, prog_5_method_10_code, prog_5_method_10_code, prog_5_method_10_code, prog_5_method_10_code, prog_5_method_10_code, prog_5_method_10_code, prog_5_method_9_code, prog_1_method_27_code, prog_5_method_4_code, prog_1_method_28_code, prog_1_method_29_code, prog_6_method_11_code, prog_6_method_16_code, prog_6_method_8_code, prog_1_method_30_code, code]
def zlL : List Nat := [3, 1, 2, 4, 4, 3, 2, 2, 3, 3, 3, 4, 2, 3, 3, 4, 4, 3, 3, 6, 4, 2, 7, 5, 3, 3, 1, 3, 4, 4, 8, 7, 4, 3, 4, 3, 2, 3, 7, 7, 2, 2, 2, 2, 2, 4, 5, 3, 3, 2, 3, 3, 2, 2, 3, 1, 2, 1, 3, 3, 4, 2, 1, 2, 2, 2, 1, 4, 3, 2, 2, 2, 4, 3, 5, 2, 3, 3, 4, 1, 3, 4, 2, 3, 4, 6, 4, 3, 5, 5, 2, 3, 2, 2, 4, 4, 3, 3, 3, 7, 3, 7, 3, 4, 6, 6, 6, 6, 6, 6, 6, 6, 6, 6, 1, 2, 5, 8, 6, 5, 5, 2, 2, 2, 2, 1, 1, 1, 4, 5, 3, 3, 2, 3, 3, 2, 2, 3, 3, 2, 5, 5, 5, 5, 5, 5, 5, 5, 5, 5, 1, 1, 4, 4, 4, 4, 4, 4, 4, 4, 4, 4, 1, 4, 3, 4, 3, 4, 3, 4, 2, 4]
def ztL : List (Option FieldType) := [some .boolean, some .boolean, none, none, some .int, some .int, some .boolean, some .boolean, some .int, some .boolean, some .boolean, some .int, some .boolean, some .int, some .int, some .int, some .int, some .int, some .int, some .int, some .int, some .int, none, some .int, some .boolean, some .boolean, some .boolean, some .int, some .int, some .int, some .int, some .int, none, some .boolean, some .boolean, none, some .int, some .boolean, some .int, some .int, some .int, some .int, some .int, some .int, some .int, some .int, some .int, some .int, some .int, some .int, some .int, some .int, some .int, some .int, some .int, some .int, some .int, some .int, some .int, some .int, some .int, some .int, some .boolean, none, none, none, some .boolean, some .int, some .int, some .boolean, some .boolean, some .boolean, some .int, some .boolean, some .int, some .boolean, some .int, some .int, some .int, some .int, some .int, none, some .boolean, some .int, some .int, some .int, some .int, none, none, some .int, some .boolean, some .boolean, some .int, some .int, some .int, some .int, some .int, some .boolean, some .int, none, some .int, some .int, none, some .int, none, none, none, none, none, none, none, none, none, none, some .boolean, some .int, some .int, some .int, some .boolean, none, some .int, none, some .int, some .int, none, some .int, some .int, some .int, some .int, some .int, some .int, some .int, some .int, some .int, some .int, some .int, some .int, none, some .int, some .boolean, some .int, some .int, some .int, some .int, some .int, some .int, some .int, some .int, some .int, some .int, some .int, some .int, some .boolean, some .boolean, some .boolean, some .boolean, some .boolean, some .boolean, some .boolean, some .boolean, some .boolean, some .boolean, some .boolean, some .int, none, some .int, some .int, some .int, some .int, some .int, some .int, some .boolean]
def zmL : List Nat := [6, 6, 6, 6, 6, 6, 6, 6, 6, 6, 6, 6, 6, 6, 6, 6, 6, 6, 6, 6, 6, 6, 6, 6, 6, 6, 6, 6, 6, 6, 6, 6, 6, 6, 6, 6, 6, 6, 6, 6, 6, 6, 6, 6, 6, 6, 6, 6, 6, 6, 6, 6, 6, 6, 6, 6, 6, 6, 6, 6, 6, 6, 5, 1, 4, 2, 5, 4, 5, 5, 4, 4, 1, 4, 4, 4, 4, 5, 5, 99, 5, 4, 4, 4, 5, 1, 1, 1, 1, 5, 0, 0, 0, 0, 0, 0, 5, 5, 1, 4, 5, 5, 3, 3, 3, 3, 3, 3, 3, 3, 3, 3, 3, 3, 3, 5, 4, 4, 4, 4, 5, 0, 5, 5, 2, 5, 5, 5, 1, 4, 5, 5, 5, 5, 3, 5, 5, 3, 5, 3, 3, 3, 3, 3, 3, 3, 3, 3, 3, 3, 3, 5, 3, 3, 3, 3, 3, 3, 3, 3, 3, 3, 3, 5, 3, 5, 5, 4, 4, 4, 5, 99]
def zyM (i : Nat) : MethodName := zyL.getD i ⟨"", "", ""⟩
def zbM (i : Nat) : ByteArray := zbL.getD i ByteArray.empty
def zlM (i : Nat) : Nat := zlL.getD i 0
def ztM (i : Nat) : Option FieldType := ztL.getD i none
def zmci (i : Nat) : Nat := zmL.getD i 99
set_option maxRecDepth 40000 in
theorem zmin_s : Jvm.Cond.static Lib.Math.min.name ∈ zbw := zin 257 rfl rfl
set_option maxRecDepth 40000 in
theorem zmin_c : Jvm.Cond.code Lib.Math.min.name Lib.Math.min.code 2 (some .int) ∈ zbw := zin 258 rfl rfl
set_option maxRecDepth 40000 in
theorem zmax_s : Jvm.Cond.static Lib.Math.max.name ∈ zbw := zin 347 rfl rfl
set_option maxRecDepth 40000 in
theorem zmax_c : Jvm.Cond.code Lib.Math.max.name Lib.Math.max.code 2 (some .int) ∈ zbw := zin 348 rfl rfl
set_option maxRecDepth 40000 in
theorem zmath : Jvm.Cond.initialized "java/lang/Math" ∈ zbw := zin 50 rfl rfl
set_option maxRecDepth 40000 in
theorem zcopy_n : Jvm.Cond.native arraycopyName ∈ zbw := zin 250 rfl rfl
set_option maxRecDepth 40000 in
theorem zcopy_s : Jvm.Cond.static arraycopyName ∈ zbw := zin 249 rfl rfl
set_option maxRecDepth 40000 in
theorem zcopy_i : Jvm.Cond.initialized "java/lang/System" ∈ zbw := zin 49 rfl rfl
set_option maxRecDepth 40000 in
theorem zcl_0 : zcl (zyM 0) (zbM 0) (zlM 0) (ztM 0) 3 := ⟨zin 48 rfl rfl, zin 660 rfl rfl, ⟨by decide +kernel, by decide +kernel, by decide +kernel⟩, by decide⟩
set_option maxRecDepth 40000 in
theorem zct_0 : Jvm.Cond.static (zyM 0) ∈ zbw := zin 659 rfl rfl
set_option maxRecDepth 40000 in
theorem zcl_1 : zcl (zyM 1) (zbM 1) (zlM 1) (ztM 1) 1 := ⟨zin 48 rfl rfl, zin 657 rfl rfl, ⟨by decide +kernel, by decide +kernel, by decide +kernel⟩, by decide⟩
set_option maxRecDepth 40000 in
theorem zct_1 : Jvm.Cond.static (zyM 1) ∈ zbw := zin 656 rfl rfl
set_option maxRecDepth 40000 in
theorem zcl_2 : zcl (zyM 2) (zbM 2) (zlM 2) (ztM 2) 0 := ⟨zin 48 rfl rfl, zin 664 rfl rfl, ⟨by decide +kernel, by decide +kernel, by decide +kernel⟩, by decide⟩
set_option maxRecDepth 40000 in
theorem zci_2 : Jvm.Cond.instanceMethod (zyM 2) ∈ zbw := zin 663 rfl rfl
set_option maxRecDepth 40000 in
theorem zcs_2 : Jvm.Cond.selects (zyM 2).cls (zyM 2) (zyM 2) ∈ zbw := zin 11 rfl rfl
set_option maxRecDepth 40000 in
theorem zcl_3 : zcl (zyM 3) (zbM 3) (zlM 3) (ztM 3) 3 := ⟨zin 48 rfl rfl, zin 668 rfl rfl, ⟨by decide +kernel, by decide +kernel, by decide +kernel⟩, by decide⟩
set_option maxRecDepth 40000 in
theorem zci_3 : Jvm.Cond.instanceMethod (zyM 3) ∈ zbw := zin 667 rfl rfl
set_option maxRecDepth 40000 in
theorem zcs_3 : Jvm.Cond.selects (zyM 3).cls (zyM 3) (zyM 3) ∈ zbw := zin 12 rfl rfl
set_option maxRecDepth 40000 in
theorem zcl_4 : zcl (zyM 4) (zbM 4) (zlM 4) (ztM 4) 2 := ⟨zin 48 rfl rfl, zin 654 rfl rfl, ⟨by decide +kernel, by decide +kernel, by decide +kernel⟩, by decide⟩
set_option maxRecDepth 40000 in
theorem zci_4 : Jvm.Cond.instanceMethod (zyM 4) ∈ zbw := zin 652 rfl rfl
set_option maxRecDepth 40000 in
theorem zcs_4 : Jvm.Cond.selects (zyM 4).cls (zyM 4) (zyM 4) ∈ zbw := zin 653 rfl rfl
set_option maxRecDepth 40000 in
theorem zcl_5 : zcl (zyM 5) (zbM 5) (zlM 5) (ztM 5) 2 := ⟨zin 48 rfl rfl, zin 684 rfl rfl, ⟨by decide +kernel, by decide +kernel, by decide +kernel⟩, by decide⟩
set_option maxRecDepth 40000 in
theorem zci_5 : Jvm.Cond.instanceMethod (zyM 5) ∈ zbw := zin 683 rfl rfl
set_option maxRecDepth 40000 in
theorem zcs_5 : Jvm.Cond.selects (zyM 5).cls (zyM 5) (zyM 5) ∈ zbw := zin 15 rfl rfl
set_option maxRecDepth 40000 in
theorem zcl_6 : zcl (zyM 6) (zbM 6) (zlM 6) (ztM 6) 1 := ⟨zin 48 rfl rfl, zin 680 rfl rfl, ⟨by decide +kernel, by decide +kernel, by decide +kernel⟩, by decide⟩
set_option maxRecDepth 40000 in
theorem zci_6 : Jvm.Cond.instanceMethod (zyM 6) ∈ zbw := zin 679 rfl rfl
set_option maxRecDepth 40000 in
theorem zcs_6 : Jvm.Cond.selects (zyM 6).cls (zyM 6) (zyM 6) ∈ zbw := zin 14 rfl rfl
set_option maxRecDepth 40000 in
theorem zcl_7 : zcl (zyM 7) (zbM 7) (zlM 7) (ztM 7) 1 := ⟨zin 48 rfl rfl, zin 676 rfl rfl, ⟨by decide +kernel, by decide +kernel, by decide +kernel⟩, by decide⟩
set_option maxRecDepth 40000 in
theorem zci_7 : Jvm.Cond.instanceMethod (zyM 7) ∈ zbw := zin 675 rfl rfl
set_option maxRecDepth 40000 in
theorem zcs_7 : Jvm.Cond.selects (zyM 7).cls (zyM 7) (zyM 7) ∈ zbw := zin 13 rfl rfl
set_option maxRecDepth 40000 in
theorem zcl_8 : zcl (zyM 8) (zbM 8) (zlM 8) (ztM 8) 2 := ⟨zin 48 rfl rfl, zin 704 rfl rfl, ⟨by decide +kernel, by decide +kernel, by decide +kernel⟩, by decide⟩
set_option maxRecDepth 40000 in
theorem zci_8 : Jvm.Cond.instanceMethod (zyM 8) ∈ zbw := zin 703 rfl rfl
set_option maxRecDepth 40000 in
theorem zcs_8 : Jvm.Cond.selects (zyM 8).cls (zyM 8) (zyM 8) ∈ zbw := zin 20 rfl rfl
set_option maxRecDepth 40000 in
theorem zcl_9 : zcl (zyM 9) (zbM 9) (zlM 9) (ztM 9) 2 := ⟨zin 48 rfl rfl, zin 708 rfl rfl, ⟨by decide +kernel, by decide +kernel, by decide +kernel⟩, by decide⟩
set_option maxRecDepth 40000 in
theorem zci_9 : Jvm.Cond.instanceMethod (zyM 9) ∈ zbw := zin 707 rfl rfl
set_option maxRecDepth 40000 in
theorem zcs_9 : Jvm.Cond.selects (zyM 9).cls (zyM 9) (zyM 9) ∈ zbw := zin 21 rfl rfl
set_option maxRecDepth 40000 in
theorem zcl_10 : zcl (zyM 10) (zbM 10) (zlM 10) (ztM 10) 2 := ⟨zin 48 rfl rfl, zin 700 rfl rfl, ⟨by decide +kernel, by decide +kernel, by decide +kernel⟩, by decide⟩
set_option maxRecDepth 40000 in
theorem zci_10 : Jvm.Cond.instanceMethod (zyM 10) ∈ zbw := zin 699 rfl rfl
set_option maxRecDepth 40000 in
theorem zcs_10 : Jvm.Cond.selects (zyM 10).cls (zyM 10) (zyM 10) ∈ zbw := zin 19 rfl rfl
set_option maxRecDepth 40000 in
theorem zcl_11 : zcl (zyM 11) (zbM 11) (zlM 11) (ztM 11) 1 := ⟨zin 48 rfl rfl, zin 696 rfl rfl, ⟨by decide +kernel, by decide +kernel, by decide +kernel⟩, by decide⟩
set_option maxRecDepth 40000 in
theorem zci_11 : Jvm.Cond.instanceMethod (zyM 11) ∈ zbw := zin 695 rfl rfl
set_option maxRecDepth 40000 in
theorem zcs_11 : Jvm.Cond.selects (zyM 11).cls (zyM 11) (zyM 11) ∈ zbw := zin 18 rfl rfl
set_option maxRecDepth 40000 in
theorem zcl_12 : zcl (zyM 12) (zbM 12) (zlM 12) (ztM 12) 1 := ⟨zin 48 rfl rfl, zin 692 rfl rfl, ⟨by decide +kernel, by decide +kernel, by decide +kernel⟩, by decide⟩
set_option maxRecDepth 40000 in
theorem zci_12 : Jvm.Cond.instanceMethod (zyM 12) ∈ zbw := zin 691 rfl rfl
set_option maxRecDepth 40000 in
theorem zcs_12 : Jvm.Cond.selects (zyM 12).cls (zyM 12) (zyM 12) ∈ zbw := zin 17 rfl rfl
set_option maxRecDepth 40000 in
theorem zcl_13 : zcl (zyM 13) (zbM 13) (zlM 13) (ztM 13) 0 := ⟨zin 48 rfl rfl, zin 688 rfl rfl, ⟨by decide +kernel, by decide +kernel, by decide +kernel⟩, by decide⟩
set_option maxRecDepth 40000 in
theorem zci_13 : Jvm.Cond.instanceMethod (zyM 13) ∈ zbw := zin 687 rfl rfl
set_option maxRecDepth 40000 in
theorem zcs_13 : Jvm.Cond.selects (zyM 13).cls (zyM 13) (zyM 13) ∈ zbw := zin 16 rfl rfl
set_option maxRecDepth 40000 in
theorem zcl_14 : zcl (zyM 14) (zbM 14) (zlM 14) (ztM 14) 2 := ⟨zin 48 rfl rfl, zin 672 rfl rfl, ⟨by decide +kernel, by decide +kernel, by decide +kernel⟩, by decide⟩
set_option maxRecDepth 40000 in
theorem zci_14 : Jvm.Cond.instanceMethod (zyM 14) ∈ zbw := zin 670 rfl rfl
set_option maxRecDepth 40000 in
theorem zcs_14 : Jvm.Cond.selects (zyM 14).cls (zyM 14) (zyM 14) ∈ zbw := zin 671 rfl rfl
set_option maxRecDepth 40000 in
theorem zcl_15 : zcl (zyM 15) (zbM 15) (zlM 15) (ztM 15) 2 := ⟨zin 48 rfl rfl, zin 712 rfl rfl, ⟨by decide +kernel, by decide +kernel, by decide +kernel⟩, by decide⟩
set_option maxRecDepth 40000 in
theorem zci_15 : Jvm.Cond.instanceMethod (zyM 15) ∈ zbw := zin 710 rfl rfl
set_option maxRecDepth 40000 in
theorem zcs_15 : Jvm.Cond.selects (zyM 15).cls (zyM 15) (zyM 15) ∈ zbw := zin 711 rfl rfl
set_option maxRecDepth 40000 in
theorem zcl_16 : zcl (zyM 16) (zbM 16) (zlM 16) (ztM 16) 1 := ⟨zin 48 rfl rfl, zin 720 rfl rfl, ⟨by decide +kernel, by decide +kernel, by decide +kernel⟩, by decide⟩
set_option maxRecDepth 40000 in
theorem zci_16 : Jvm.Cond.instanceMethod (zyM 16) ∈ zbw := zin 719 rfl rfl
set_option maxRecDepth 40000 in
theorem zcs_16 : Jvm.Cond.selects (zyM 16).cls (zyM 16) (zyM 16) ∈ zbw := zin 22 rfl rfl
set_option maxRecDepth 40000 in
theorem zcl_17 : zcl (zyM 17) (zbM 17) (zlM 17) (ztM 17) 1 := ⟨zin 48 rfl rfl, zin 723 rfl rfl, ⟨by decide +kernel, by decide +kernel, by decide +kernel⟩, by decide⟩
set_option maxRecDepth 40000 in
theorem zct_17 : Jvm.Cond.static (zyM 17) ∈ zbw := zin 722 rfl rfl
set_option maxRecDepth 40000 in
theorem zcl_18 : zcl (zyM 18) (zbM 18) (zlM 18) (ztM 18) 2 := ⟨zin 48 rfl rfl, zin 716 rfl rfl, ⟨by decide +kernel, by decide +kernel, by decide +kernel⟩, by decide⟩
set_option maxRecDepth 40000 in
theorem zci_18 : Jvm.Cond.instanceMethod (zyM 18) ∈ zbw := zin 714 rfl rfl
set_option maxRecDepth 40000 in
theorem zcs_18 : Jvm.Cond.selects (zyM 18).cls (zyM 18) (zyM 18) ∈ zbw := zin 715 rfl rfl
set_option maxRecDepth 40000 in
theorem zcl_19 : zcl (zyM 19) (zbM 19) (zlM 19) (ztM 19) 1 := ⟨zin 48 rfl rfl, zin 731 rfl rfl, ⟨by decide +kernel, by decide +kernel, by decide +kernel⟩, by decide⟩
set_option maxRecDepth 40000 in
theorem zci_19 : Jvm.Cond.instanceMethod (zyM 19) ∈ zbw := zin 730 rfl rfl
set_option maxRecDepth 40000 in
theorem zcs_19 : Jvm.Cond.selects (zyM 19).cls (zyM 19) (zyM 19) ∈ zbw := zin 23 rfl rfl
set_option maxRecDepth 40000 in
theorem zcl_20 : zcl (zyM 20) (zbM 20) (zlM 20) (ztM 20) 3 := ⟨zin 48 rfl rfl, zin 727 rfl rfl, ⟨by decide +kernel, by decide +kernel, by decide +kernel⟩, by decide⟩
set_option maxRecDepth 40000 in
theorem zci_20 : Jvm.Cond.instanceMethod (zyM 20) ∈ zbw := zin 725 rfl rfl
set_option maxRecDepth 40000 in
theorem zcs_20 : Jvm.Cond.selects (zyM 20).cls (zyM 20) (zyM 20) ∈ zbw := zin 726 rfl rfl
set_option maxRecDepth 40000 in
theorem zcl_21 : zcl (zyM 21) (zbM 21) (zlM 21) (ztM 21) 2 := ⟨zin 48 rfl rfl, zin 742 rfl rfl, ⟨by decide +kernel, by decide +kernel, by decide +kernel⟩, by decide⟩
set_option maxRecDepth 40000 in
theorem zct_21 : Jvm.Cond.static (zyM 21) ∈ zbw := zin 741 rfl rfl
set_option maxRecDepth 40000 in
theorem zcl_22 : zcl (zyM 22) (zbM 22) (zlM 22) (ztM 22) 3 := ⟨zin 48 rfl rfl, zin 739 rfl rfl, ⟨by decide +kernel, by decide +kernel, by decide +kernel⟩, by decide⟩
set_option maxRecDepth 40000 in
theorem zci_22 : Jvm.Cond.instanceMethod (zyM 22) ∈ zbw := zin 738 rfl rfl
set_option maxRecDepth 40000 in
theorem zcs_22 : Jvm.Cond.selects (zyM 22).cls (zyM 22) (zyM 22) ∈ zbw := zin 24 rfl rfl
set_option maxRecDepth 40000 in
theorem zcl_23 : zcl (zyM 23) (zbM 23) (zlM 23) (ztM 23) 3 := ⟨zin 48 rfl rfl, zin 735 rfl rfl, ⟨by decide +kernel, by decide +kernel, by decide +kernel⟩, by decide⟩
set_option maxRecDepth 40000 in
theorem zci_23 : Jvm.Cond.instanceMethod (zyM 23) ∈ zbw := zin 733 rfl rfl
set_option maxRecDepth 40000 in
theorem zcs_23 : Jvm.Cond.selects (zyM 23).cls (zyM 23) (zyM 23) ∈ zbw := zin 734 rfl rfl
set_option maxRecDepth 40000 in
theorem zcl_24 : zcl (zyM 24) (zbM 24) (zlM 24) (ztM 24) 2 := ⟨zin 48 rfl rfl, zin 810 rfl rfl, ⟨by decide +kernel, by decide +kernel, by decide +kernel⟩, by decide⟩
set_option maxRecDepth 40000 in
theorem zci_24 : Jvm.Cond.instanceMethod (zyM 24) ∈ zbw := zin 809 rfl rfl
set_option maxRecDepth 40000 in
theorem zcs_24 : Jvm.Cond.selects (zyM 24).cls (zyM 24) (zyM 24) ∈ zbw := zin 34 rfl rfl
set_option maxRecDepth 40000 in
theorem zcl_25 : zcl (zyM 25) (zbM 25) (zlM 25) (ztM 25) 1 := ⟨zin 48 rfl rfl, zin 814 rfl rfl, ⟨by decide +kernel, by decide +kernel, by decide +kernel⟩, by decide⟩
set_option maxRecDepth 40000 in
theorem zci_25 : Jvm.Cond.instanceMethod (zyM 25) ∈ zbw := zin 813 rfl rfl
set_option maxRecDepth 40000 in
theorem zcs_25 : Jvm.Cond.selects (zyM 25).cls (zyM 25) (zyM 25) ∈ zbw := zin 35 rfl rfl
set_option maxRecDepth 40000 in
theorem zcl_26 : zcl (zyM 26) (zbM 26) (zlM 26) (ztM 26) 0 := ⟨zin 48 rfl rfl, zin 806 rfl rfl, ⟨by decide +kernel, by decide +kernel, by decide +kernel⟩, by decide⟩
set_option maxRecDepth 40000 in
theorem zci_26 : Jvm.Cond.instanceMethod (zyM 26) ∈ zbw := zin 805 rfl rfl
set_option maxRecDepth 40000 in
theorem zcs_26 : Jvm.Cond.selects (zyM 26).cls (zyM 26) (zyM 26) ∈ zbw := zin 33 rfl rfl
set_option maxRecDepth 40000 in
theorem zcl_27 : zcl (zyM 27) (zbM 27) (zlM 27) (ztM 27) 0 := ⟨zin 48 rfl rfl, zin 802 rfl rfl, ⟨by decide +kernel, by decide +kernel, by decide +kernel⟩, by decide⟩
set_option maxRecDepth 40000 in
theorem zci_27 : Jvm.Cond.instanceMethod (zyM 27) ∈ zbw := zin 801 rfl rfl
set_option maxRecDepth 40000 in
theorem zcs_27 : Jvm.Cond.selects (zyM 27).cls (zyM 27) (zyM 27) ∈ zbw := zin 32 rfl rfl
set_option maxRecDepth 40000 in
theorem zcl_28 : zcl (zyM 28) (zbM 28) (zlM 28) (ztM 28) 0 := ⟨zin 48 rfl rfl, zin 798 rfl rfl, ⟨by decide +kernel, by decide +kernel, by decide +kernel⟩, by decide⟩
set_option maxRecDepth 40000 in
theorem zci_28 : Jvm.Cond.instanceMethod (zyM 28) ∈ zbw := zin 796 rfl rfl
set_option maxRecDepth 40000 in
theorem zcs_28 : Jvm.Cond.selects (zyM 28).cls (zyM 28) (zyM 28) ∈ zbw := zin 797 rfl rfl
set_option maxRecDepth 40000 in
theorem zcl_29 : zcl (zyM 29) (zbM 29) (zlM 29) (ztM 29) 1 := ⟨zin 48 rfl rfl, zin 750 rfl rfl, ⟨by decide +kernel, by decide +kernel, by decide +kernel⟩, by decide⟩
set_option maxRecDepth 40000 in
theorem zci_29 : Jvm.Cond.instanceMethod (zyM 29) ∈ zbw := zin 749 rfl rfl
set_option maxRecDepth 40000 in
theorem zcs_29 : Jvm.Cond.selects (zyM 29).cls (zyM 29) (zyM 29) ∈ zbw := zin 25 rfl rfl
set_option maxRecDepth 40000 in
theorem zcl_30 : zcl (zyM 30) (zbM 30) (zlM 30) (ztM 30) 2 := ⟨zin 48 rfl rfl, zin 746 rfl rfl, ⟨by decide +kernel, by decide +kernel, by decide +kernel⟩, by decide⟩
set_option maxRecDepth 40000 in
theorem zci_30 : Jvm.Cond.instanceMethod (zyM 30) ∈ zbw := zin 744 rfl rfl
set_option maxRecDepth 40000 in
theorem zcs_30 : Jvm.Cond.selects (zyM 30).cls (zyM 30) (zyM 30) ∈ zbw := zin 745 rfl rfl
set_option maxRecDepth 40000 in
theorem zcl_31 : zcl (zyM 31) (zbM 31) (zlM 31) (ztM 31) 4 := ⟨zin 48 rfl rfl, zin 754 rfl rfl, ⟨by decide +kernel, by decide +kernel, by decide +kernel⟩, by decide⟩
set_option maxRecDepth 40000 in
theorem zci_31 : Jvm.Cond.instanceMethod (zyM 31) ∈ zbw := zin 752 rfl rfl
set_option maxRecDepth 40000 in
theorem zcs_31 : Jvm.Cond.selects (zyM 31).cls (zyM 31) (zyM 31) ∈ zbw := zin 753 rfl rfl
set_option maxRecDepth 40000 in
theorem zcl_32 : zcl (zyM 32) (zbM 32) (zlM 32) (ztM 32) 0 := ⟨zin 48 rfl rfl, zin 766 rfl rfl, ⟨by decide +kernel, by decide +kernel, by decide +kernel⟩, by decide⟩
set_option maxRecDepth 40000 in
theorem zci_32 : Jvm.Cond.instanceMethod (zyM 32) ∈ zbw := zin 765 rfl rfl
set_option maxRecDepth 40000 in
theorem zcs_32 : Jvm.Cond.selects (zyM 32).cls (zyM 32) (zyM 32) ∈ zbw := zin 27 rfl rfl
set_option maxRecDepth 40000 in
theorem zcl_33 : zcl (zyM 33) (zbM 33) (zlM 33) (ztM 33) 2 := ⟨zin 48 rfl rfl, zin 774 rfl rfl, ⟨by decide +kernel, by decide +kernel, by decide +kernel⟩, by decide⟩
set_option maxRecDepth 40000 in
theorem zci_33 : Jvm.Cond.instanceMethod (zyM 33) ∈ zbw := zin 773 rfl rfl
set_option maxRecDepth 40000 in
theorem zcs_33 : Jvm.Cond.selects (zyM 33).cls (zyM 33) (zyM 33) ∈ zbw := zin 29 rfl rfl
set_option maxRecDepth 40000 in
theorem zcl_34 : zcl (zyM 34) (zbM 34) (zlM 34) (ztM 34) 1 := ⟨zin 48 rfl rfl, zin 770 rfl rfl, ⟨by decide +kernel, by decide +kernel, by decide +kernel⟩, by decide⟩
set_option maxRecDepth 40000 in
theorem zci_34 : Jvm.Cond.instanceMethod (zyM 34) ∈ zbw := zin 769 rfl rfl
set_option maxRecDepth 40000 in
theorem zcs_34 : Jvm.Cond.selects (zyM 34).cls (zyM 34) (zyM 34) ∈ zbw := zin 28 rfl rfl
set_option maxRecDepth 40000 in
theorem zcl_35 : zcl (zyM 35) (zbM 35) (zlM 35) (ztM 35) 0 := ⟨zin 48 rfl rfl, zin 762 rfl rfl, ⟨by decide +kernel, by decide +kernel, by decide +kernel⟩, by decide⟩
set_option maxRecDepth 40000 in
theorem zci_35 : Jvm.Cond.instanceMethod (zyM 35) ∈ zbw := zin 761 rfl rfl
set_option maxRecDepth 40000 in
theorem zcs_35 : Jvm.Cond.selects (zyM 35).cls (zyM 35) (zyM 35) ∈ zbw := zin 26 rfl rfl
set_option maxRecDepth 40000 in
theorem zcl_36 : zcl (zyM 36) (zbM 36) (zlM 36) (ztM 36) 0 := ⟨zin 48 rfl rfl, zin 758 rfl rfl, ⟨by decide +kernel, by decide +kernel, by decide +kernel⟩, by decide⟩
set_option maxRecDepth 40000 in
theorem zci_36 : Jvm.Cond.instanceMethod (zyM 36) ∈ zbw := zin 756 rfl rfl
set_option maxRecDepth 40000 in
theorem zcs_36 : Jvm.Cond.selects (zyM 36).cls (zyM 36) (zyM 36) ∈ zbw := zin 757 rfl rfl
set_option maxRecDepth 40000 in
theorem zcl_37 : zcl (zyM 37) (zbM 37) (zlM 37) (ztM 37) 2 := ⟨zin 48 rfl rfl, zin 782 rfl rfl, ⟨by decide +kernel, by decide +kernel, by decide +kernel⟩, by decide⟩
set_option maxRecDepth 40000 in
theorem zci_37 : Jvm.Cond.instanceMethod (zyM 37) ∈ zbw := zin 781 rfl rfl
set_option maxRecDepth 40000 in
theorem zcs_37 : Jvm.Cond.selects (zyM 37).cls (zyM 37) (zyM 37) ∈ zbw := zin 30 rfl rfl
set_option maxRecDepth 40000 in
theorem zcl_38 : zcl (zyM 38) (zbM 38) (zlM 38) (ztM 38) 2 := ⟨zin 48 rfl rfl, zin 786 rfl rfl, ⟨by decide +kernel, by decide +kernel, by decide +kernel⟩, by decide⟩
set_option maxRecDepth 40000 in
theorem zci_38 : Jvm.Cond.instanceMethod (zyM 38) ∈ zbw := zin 785 rfl rfl
set_option maxRecDepth 40000 in
theorem zcs_38 : Jvm.Cond.selects (zyM 38).cls (zyM 38) (zyM 38) ∈ zbw := zin 31 rfl rfl
set_option maxRecDepth 40000 in
theorem zcl_39 : zcl (zyM 39) (zbM 39) (zlM 39) (ztM 39) 2 := ⟨zin 48 rfl rfl, zin 778 rfl rfl, ⟨by decide +kernel, by decide +kernel, by decide +kernel⟩, by decide⟩
set_option maxRecDepth 40000 in
theorem zci_39 : Jvm.Cond.instanceMethod (zyM 39) ∈ zbw := zin 776 rfl rfl
set_option maxRecDepth 40000 in
theorem zcs_39 : Jvm.Cond.selects (zyM 39).cls (zyM 39) (zyM 39) ∈ zbw := zin 777 rfl rfl
set_option maxRecDepth 40000 in
theorem zcl_40 : zcl (zyM 40) (zbM 40) (zlM 40) (ztM 40) 1 := ⟨zin 48 rfl rfl, zin 790 rfl rfl, ⟨by decide +kernel, by decide +kernel, by decide +kernel⟩, by decide⟩
set_option maxRecDepth 40000 in
theorem zci_40 : Jvm.Cond.instanceMethod (zyM 40) ∈ zbw := zin 788 rfl rfl
set_option maxRecDepth 40000 in
theorem zcs_40 : Jvm.Cond.selects (zyM 40).cls (zyM 40) (zyM 40) ∈ zbw := zin 789 rfl rfl
set_option maxRecDepth 40000 in
theorem zcl_41 : zcl (zyM 41) (zbM 41) (zlM 41) (ztM 41) 0 := ⟨zin 48 rfl rfl, zin 794 rfl rfl, ⟨by decide +kernel, by decide +kernel, by decide +kernel⟩, by decide⟩
set_option maxRecDepth 40000 in
theorem zci_41 : Jvm.Cond.instanceMethod (zyM 41) ∈ zbw := zin 792 rfl rfl
set_option maxRecDepth 40000 in
theorem zcs_41 : Jvm.Cond.selects (zyM 41).cls (zyM 41) (zyM 41) ∈ zbw := zin 793 rfl rfl
set_option maxRecDepth 40000 in
theorem zcl_42 : zcl (zyM 42) (zbM 42) (zlM 42) (ztM 42) 0 := ⟨zin 48 rfl rfl, zin 818 rfl rfl, ⟨by decide +kernel, by decide +kernel, by decide +kernel⟩, by decide⟩
set_option maxRecDepth 40000 in
theorem zci_42 : Jvm.Cond.instanceMethod (zyM 42) ∈ zbw := zin 816 rfl rfl
set_option maxRecDepth 40000 in
theorem zcs_42 : Jvm.Cond.selects (zyM 42).cls (zyM 42) (zyM 42) ∈ zbw := zin 817 rfl rfl
set_option maxRecDepth 40000 in
theorem zcl_43 : zcl (zyM 43) (zbM 43) (zlM 43) (ztM 43) 0 := ⟨zin 48 rfl rfl, zin 822 rfl rfl, ⟨by decide +kernel, by decide +kernel, by decide +kernel⟩, by decide⟩
set_option maxRecDepth 40000 in
theorem zci_43 : Jvm.Cond.instanceMethod (zyM 43) ∈ zbw := zin 820 rfl rfl
set_option maxRecDepth 40000 in
theorem zcs_43 : Jvm.Cond.selects (zyM 43).cls (zyM 43) (zyM 43) ∈ zbw := zin 821 rfl rfl
set_option maxRecDepth 40000 in
theorem zcl_44 : zcl (zyM 44) (zbM 44) (zlM 44) (ztM 44) 0 := ⟨zin 48 rfl rfl, zin 826 rfl rfl, ⟨by decide +kernel, by decide +kernel, by decide +kernel⟩, by decide⟩
set_option maxRecDepth 40000 in
theorem zci_44 : Jvm.Cond.instanceMethod (zyM 44) ∈ zbw := zin 824 rfl rfl
set_option maxRecDepth 40000 in
theorem zcs_44 : Jvm.Cond.selects (zyM 44).cls (zyM 44) (zyM 44) ∈ zbw := zin 825 rfl rfl
set_option maxRecDepth 40000 in
theorem zcl_45 : zcl (zyM 45) (zbM 45) (zlM 45) (ztM 45) 1 := ⟨zin 48 rfl rfl, zin 834 rfl rfl, ⟨by decide +kernel, by decide +kernel, by decide +kernel⟩, by decide⟩
set_option maxRecDepth 40000 in
theorem zci_45 : Jvm.Cond.instanceMethod (zyM 45) ∈ zbw := zin 833 rfl rfl
set_option maxRecDepth 40000 in
theorem zcs_45 : Jvm.Cond.selects (zyM 45).cls (zyM 45) (zyM 45) ∈ zbw := zin 36 rfl rfl
set_option maxRecDepth 40000 in
theorem zcl_46 : zcl (zyM 46) (zbM 46) (zlM 46) (ztM 46) 1 := ⟨zin 48 rfl rfl, zin 838 rfl rfl, ⟨by decide +kernel, by decide +kernel, by decide +kernel⟩, by decide⟩
set_option maxRecDepth 40000 in
theorem zci_46 : Jvm.Cond.instanceMethod (zyM 46) ∈ zbw := zin 837 rfl rfl
set_option maxRecDepth 40000 in
theorem zcs_46 : Jvm.Cond.selects (zyM 46).cls (zyM 46) (zyM 46) ∈ zbw := zin 37 rfl rfl
set_option maxRecDepth 40000 in
theorem zcl_47 : zcl (zyM 47) (zbM 47) (zlM 47) (ztM 47) 2 := ⟨zin 48 rfl rfl, zin 830 rfl rfl, ⟨by decide +kernel, by decide +kernel, by decide +kernel⟩, by decide⟩
set_option maxRecDepth 40000 in
theorem zci_47 : Jvm.Cond.instanceMethod (zyM 47) ∈ zbw := zin 828 rfl rfl
set_option maxRecDepth 40000 in
theorem zcs_47 : Jvm.Cond.selects (zyM 47).cls (zyM 47) (zyM 47) ∈ zbw := zin 829 rfl rfl
set_option maxRecDepth 40000 in
theorem zcl_48 : zcl (zyM 48) (zbM 48) (zlM 48) (ztM 48) 2 := ⟨zin 48 rfl rfl, zin 842 rfl rfl, ⟨by decide +kernel, by decide +kernel, by decide +kernel⟩, by decide⟩
set_option maxRecDepth 40000 in
theorem zci_48 : Jvm.Cond.instanceMethod (zyM 48) ∈ zbw := zin 840 rfl rfl
set_option maxRecDepth 40000 in
theorem zcs_48 : Jvm.Cond.selects (zyM 48).cls (zyM 48) (zyM 48) ∈ zbw := zin 841 rfl rfl
set_option maxRecDepth 40000 in
theorem zcl_49 : zcl (zyM 49) (zbM 49) (zlM 49) (ztM 49) 1 := ⟨zin 48 rfl rfl, zin 846 rfl rfl, ⟨by decide +kernel, by decide +kernel, by decide +kernel⟩, by decide⟩
set_option maxRecDepth 40000 in
theorem zci_49 : Jvm.Cond.instanceMethod (zyM 49) ∈ zbw := zin 844 rfl rfl
set_option maxRecDepth 40000 in
theorem zcs_49 : Jvm.Cond.selects (zyM 49).cls (zyM 49) (zyM 49) ∈ zbw := zin 845 rfl rfl
set_option maxRecDepth 40000 in
theorem zcl_50 : zcl (zyM 50) (zbM 50) (zlM 50) (ztM 50) 2 := ⟨zin 48 rfl rfl, zin 850 rfl rfl, ⟨by decide +kernel, by decide +kernel, by decide +kernel⟩, by decide⟩
set_option maxRecDepth 40000 in
theorem zci_50 : Jvm.Cond.instanceMethod (zyM 50) ∈ zbw := zin 848 rfl rfl
set_option maxRecDepth 40000 in
theorem zcs_50 : Jvm.Cond.selects (zyM 50).cls (zyM 50) (zyM 50) ∈ zbw := zin 849 rfl rfl
set_option maxRecDepth 40000 in
theorem zcl_51 : zcl (zyM 51) (zbM 51) (zlM 51) (ztM 51) 0 := ⟨zin 48 rfl rfl, zin 858 rfl rfl, ⟨by decide +kernel, by decide +kernel, by decide +kernel⟩, by decide⟩
set_option maxRecDepth 40000 in
theorem zci_51 : Jvm.Cond.instanceMethod (zyM 51) ∈ zbw := zin 857 rfl rfl
set_option maxRecDepth 40000 in
theorem zcs_51 : Jvm.Cond.selects (zyM 51).cls (zyM 51) (zyM 51) ∈ zbw := zin 38 rfl rfl
set_option maxRecDepth 40000 in
theorem zcl_52 : zcl (zyM 52) (zbM 52) (zlM 52) (ztM 52) 1 := ⟨zin 48 rfl rfl, zin 854 rfl rfl, ⟨by decide +kernel, by decide +kernel, by decide +kernel⟩, by decide⟩
set_option maxRecDepth 40000 in
theorem zci_52 : Jvm.Cond.instanceMethod (zyM 52) ∈ zbw := zin 852 rfl rfl
set_option maxRecDepth 40000 in
theorem zcs_52 : Jvm.Cond.selects (zyM 52).cls (zyM 52) (zyM 52) ∈ zbw := zin 853 rfl rfl
set_option maxRecDepth 40000 in
theorem zcl_53 : zcl (zyM 53) (zbM 53) (zlM 53) (ztM 53) 1 := ⟨zin 48 rfl rfl, zin 862 rfl rfl, ⟨by decide +kernel, by decide +kernel, by decide +kernel⟩, by decide⟩
set_option maxRecDepth 40000 in
theorem zci_53 : Jvm.Cond.instanceMethod (zyM 53) ∈ zbw := zin 860 rfl rfl
set_option maxRecDepth 40000 in
theorem zcs_53 : Jvm.Cond.selects (zyM 53).cls (zyM 53) (zyM 53) ∈ zbw := zin 861 rfl rfl
set_option maxRecDepth 40000 in
theorem zcl_54 : zcl (zyM 54) (zbM 54) (zlM 54) (ztM 54) 2 := ⟨zin 48 rfl rfl, zin 866 rfl rfl, ⟨by decide +kernel, by decide +kernel, by decide +kernel⟩, by decide⟩
set_option maxRecDepth 40000 in
theorem zci_54 : Jvm.Cond.instanceMethod (zyM 54) ∈ zbw := zin 864 rfl rfl
set_option maxRecDepth 40000 in
theorem zcs_54 : Jvm.Cond.selects (zyM 54).cls (zyM 54) (zyM 54) ∈ zbw := zin 865 rfl rfl
set_option maxRecDepth 40000 in
theorem zcl_55 : zcl (zyM 55) (zbM 55) (zlM 55) (ztM 55) 0 := ⟨zin 48 rfl rfl, zin 870 rfl rfl, ⟨by decide +kernel, by decide +kernel, by decide +kernel⟩, by decide⟩
set_option maxRecDepth 40000 in
theorem zci_55 : Jvm.Cond.instanceMethod (zyM 55) ∈ zbw := zin 868 rfl rfl
set_option maxRecDepth 40000 in
theorem zcs_55 : Jvm.Cond.selects (zyM 55).cls (zyM 55) (zyM 55) ∈ zbw := zin 869 rfl rfl
set_option maxRecDepth 40000 in
theorem zcl_56 : zcl (zyM 56) (zbM 56) (zlM 56) (ztM 56) 1 := ⟨zin 48 rfl rfl, zin 874 rfl rfl, ⟨by decide +kernel, by decide +kernel, by decide +kernel⟩, by decide⟩
set_option maxRecDepth 40000 in
theorem zci_56 : Jvm.Cond.instanceMethod (zyM 56) ∈ zbw := zin 872 rfl rfl
set_option maxRecDepth 40000 in
theorem zcs_56 : Jvm.Cond.selects (zyM 56).cls (zyM 56) (zyM 56) ∈ zbw := zin 873 rfl rfl
set_option maxRecDepth 40000 in
theorem zcl_57 : zcl (zyM 57) (zbM 57) (zlM 57) (ztM 57) 0 := ⟨zin 48 rfl rfl, zin 878 rfl rfl, ⟨by decide +kernel, by decide +kernel, by decide +kernel⟩, by decide⟩
set_option maxRecDepth 40000 in
theorem zci_57 : Jvm.Cond.instanceMethod (zyM 57) ∈ zbw := zin 876 rfl rfl
set_option maxRecDepth 40000 in
theorem zcs_57 : Jvm.Cond.selects (zyM 57).cls (zyM 57) (zyM 57) ∈ zbw := zin 877 rfl rfl
set_option maxRecDepth 40000 in
theorem zcl_58 : zcl (zyM 58) (zbM 58) (zlM 58) (ztM 58) 2 := ⟨zin 48 rfl rfl, zin 882 rfl rfl, ⟨by decide +kernel, by decide +kernel, by decide +kernel⟩, by decide⟩
set_option maxRecDepth 40000 in
theorem zci_58 : Jvm.Cond.instanceMethod (zyM 58) ∈ zbw := zin 880 rfl rfl
set_option maxRecDepth 40000 in
theorem zcs_58 : Jvm.Cond.selects (zyM 58).cls (zyM 58) (zyM 58) ∈ zbw := zin 881 rfl rfl
set_option maxRecDepth 40000 in
theorem zcl_59 : zcl (zyM 59) (zbM 59) (zlM 59) (ztM 59) 0 := ⟨zin 48 rfl rfl, zin 890 rfl rfl, ⟨by decide +kernel, by decide +kernel, by decide +kernel⟩, by decide⟩
set_option maxRecDepth 40000 in
theorem zci_59 : Jvm.Cond.instanceMethod (zyM 59) ∈ zbw := zin 889 rfl rfl
set_option maxRecDepth 40000 in
theorem zcs_59 : Jvm.Cond.selects (zyM 59).cls (zyM 59) (zyM 59) ∈ zbw := zin 39 rfl rfl
set_option maxRecDepth 40000 in
theorem zcl_60 : zcl (zyM 60) (zbM 60) (zlM 60) (ztM 60) 0 := ⟨zin 48 rfl rfl, zin 894 rfl rfl, ⟨by decide +kernel, by decide +kernel, by decide +kernel⟩, by decide⟩
set_option maxRecDepth 40000 in
theorem zci_60 : Jvm.Cond.instanceMethod (zyM 60) ∈ zbw := zin 893 rfl rfl
set_option maxRecDepth 40000 in
theorem zcs_60 : Jvm.Cond.selects (zyM 60).cls (zyM 60) (zyM 60) ∈ zbw := zin 40 rfl rfl
set_option maxRecDepth 40000 in
theorem zcl_61 : zcl (zyM 61) (zbM 61) (zlM 61) (ztM 61) 1 := ⟨zin 48 rfl rfl, zin 886 rfl rfl, ⟨by decide +kernel, by decide +kernel, by decide +kernel⟩, by decide⟩
set_option maxRecDepth 40000 in
theorem zci_61 : Jvm.Cond.instanceMethod (zyM 61) ∈ zbw := zin 884 rfl rfl
set_option maxRecDepth 40000 in
theorem zcs_61 : Jvm.Cond.selects (zyM 61).cls (zyM 61) (zyM 61) ∈ zbw := zin 885 rfl rfl
set_option maxRecDepth 40000 in
theorem zcl_62 : zcl (zyM 62) (zbM 62) (zlM 62) (ztM 62) 1 := ⟨zin 42 rfl rfl, zin 239 rfl rfl, ⟨by decide +kernel, by decide +kernel, by decide +kernel⟩, by decide⟩
set_option maxRecDepth 40000 in
theorem zct_62 : Jvm.Cond.static (zyM 62) ∈ zbw := zin 238 rfl rfl
set_option maxRecDepth 40000 in
theorem zcl_63 : zcl (zyM 63) (zbM 63) (zlM 63) (ztM 63) 1 := ⟨zin 44 rfl rfl, zin 254 rfl rfl, ⟨by decide +kernel, by decide +kernel, by decide +kernel⟩, by decide⟩
set_option maxRecDepth 40000 in
theorem zci_63 : Jvm.Cond.instanceMethod (zyM 63) ∈ zbw := zin 252 rfl rfl
set_option maxRecDepth 40000 in
theorem zcs_63 : Jvm.Cond.selects (zyM 63).cls (zyM 63) (zyM 63) ∈ zbw := zin 253 rfl rfl
set_option maxRecDepth 40000 in
theorem zcl_64 : zcl (zyM 64) (zbM 64) (zlM 64) (ztM 64) 1 := ⟨zin 43 rfl rfl, zin 247 rfl rfl, ⟨by decide +kernel, by decide +kernel, by decide +kernel⟩, by decide⟩
set_option maxRecDepth 40000 in
theorem zci_64 : Jvm.Cond.instanceMethod (zyM 64) ∈ zbw := zin 245 rfl rfl
set_option maxRecDepth 40000 in
theorem zcs_64 : Jvm.Cond.selects (zyM 64).cls (zyM 64) (zyM 64) ∈ zbw := zin 246 rfl rfl
set_option maxRecDepth 40000 in
theorem zcl_65 : zcl (zyM 65) (zbM 65) (zlM 65) (ztM 65) 1 := ⟨zin 45 rfl rfl, zin 243 rfl rfl, ⟨by decide +kernel, by decide +kernel, by decide +kernel⟩, by decide⟩
set_option maxRecDepth 40000 in
theorem zci_65 : Jvm.Cond.instanceMethod (zyM 65) ∈ zbw := zin 241 rfl rfl
set_option maxRecDepth 40000 in
theorem zcs_65 : Jvm.Cond.selects (zyM 65).cls (zyM 65) (zyM 65) ∈ zbw := zin 242 rfl rfl
set_option maxRecDepth 40000 in
theorem zcl_66 : zcl (zyM 66) (zbM 66) (zlM 66) (ztM 66) 1 := ⟨zin 42 rfl rfl, zin 265 rfl rfl, ⟨by decide +kernel, by decide +kernel, by decide +kernel⟩, by decide⟩
set_option maxRecDepth 40000 in
theorem zct_66 : Jvm.Cond.static (zyM 66) ∈ zbw := zin 264 rfl rfl
set_option maxRecDepth 40000 in
theorem zcl_67 : zcl (zyM 67) (zbM 67) (zlM 67) (ztM 67) 2 := ⟨zin 43 rfl rfl, zin 262 rfl rfl, ⟨by decide +kernel, by decide +kernel, by decide +kernel⟩, by decide⟩
set_option maxRecDepth 40000 in
theorem zci_67 : Jvm.Cond.instanceMethod (zyM 67) ∈ zbw := zin 260 rfl rfl
set_option maxRecDepth 40000 in
theorem zcs_67 : Jvm.Cond.selects (zyM 67).cls (zyM 67) (zyM 67) ∈ zbw := zin 261 rfl rfl
set_option maxRecDepth 40000 in
theorem zcl_68 : zcl (zyM 68) (zbM 68) (zlM 68) (ztM 68) 2 := ⟨zin 42 rfl rfl, zin 236 rfl rfl, ⟨by decide +kernel, by decide +kernel, by decide +kernel⟩, by decide⟩
set_option maxRecDepth 40000 in
theorem zci_68 : Jvm.Cond.instanceMethod (zyM 68) ∈ zbw := zin 234 rfl rfl
set_option maxRecDepth 40000 in
theorem zcs_68 : Jvm.Cond.selects (zyM 68).cls (zyM 68) (zyM 68) ∈ zbw := zin 235 rfl rfl
set_option maxRecDepth 40000 in
theorem zcl_69 : zcl (zyM 69) (zbM 69) (zlM 69) (ztM 69) 2 := ⟨zin 42 rfl rfl, zin 276 rfl rfl, ⟨by decide +kernel, by decide +kernel, by decide +kernel⟩, by decide⟩
set_option maxRecDepth 40000 in
theorem zct_69 : Jvm.Cond.static (zyM 69) ∈ zbw := zin 275 rfl rfl
set_option maxRecDepth 40000 in
theorem zcl_70 : zcl (zyM 70) (zbM 70) (zlM 70) (ztM 70) 1 := ⟨zin 43 rfl rfl, zin 273 rfl rfl, ⟨by decide +kernel, by decide +kernel, by decide +kernel⟩, by decide⟩
set_option maxRecDepth 40000 in
theorem zci_70 : Jvm.Cond.instanceMethod (zyM 70) ∈ zbw := zin 271 rfl rfl
set_option maxRecDepth 40000 in
theorem zcs_70 : Jvm.Cond.selects (zyM 70).cls (zyM 70) (zyM 70) ∈ zbw := zin 272 rfl rfl
set_option maxRecDepth 40000 in
theorem zcl_71 : zcl (zyM 71) (zbM 71) (zlM 71) (ztM 71) 1 := ⟨zin 43 rfl rfl, zin 280 rfl rfl, ⟨by decide +kernel, by decide +kernel, by decide +kernel⟩, by decide⟩
set_option maxRecDepth 40000 in
theorem zci_71 : Jvm.Cond.instanceMethod (zyM 71) ∈ zbw := zin 278 rfl rfl
set_option maxRecDepth 40000 in
theorem zcs_71 : Jvm.Cond.selects (zyM 71).cls (zyM 71) (zyM 71) ∈ zbw := zin 279 rfl rfl
set_option maxRecDepth 40000 in
theorem zcl_72 : zcl (zyM 72) (zbM 72) (zlM 72) (ztM 72) 1 := ⟨zin 44 rfl rfl, zin 297 rfl rfl, ⟨by decide +kernel, by decide +kernel, by decide +kernel⟩, by decide⟩
set_option maxRecDepth 40000 in
theorem zci_72 : Jvm.Cond.instanceMethod (zyM 72) ∈ zbw := zin 295 rfl rfl
set_option maxRecDepth 40000 in
theorem zcs_72 : Jvm.Cond.selects (zyM 72).cls (zyM 72) (zyM 72) ∈ zbw := zin 296 rfl rfl
set_option maxRecDepth 40000 in
theorem zcl_73 : zcl (zyM 73) (zbM 73) (zlM 73) (ztM 73) 2 := ⟨zin 43 rfl rfl, zin 301 rfl rfl, ⟨by decide +kernel, by decide +kernel, by decide +kernel⟩, by decide⟩
set_option maxRecDepth 40000 in
theorem zci_73 : Jvm.Cond.instanceMethod (zyM 73) ∈ zbw := zin 299 rfl rfl
set_option maxRecDepth 40000 in
theorem zcs_73 : Jvm.Cond.selects (zyM 73).cls (zyM 73) (zyM 73) ∈ zbw := zin 300 rfl rfl
set_option maxRecDepth 40000 in
theorem zcl_74 : zcl (zyM 74) (zbM 74) (zlM 74) (ztM 74) 1 := ⟨zin 43 rfl rfl, zin 293 rfl rfl, ⟨by decide +kernel, by decide +kernel, by decide +kernel⟩, by decide⟩
set_option maxRecDepth 40000 in
theorem zci_74 : Jvm.Cond.instanceMethod (zyM 74) ∈ zbw := zin 291 rfl rfl
set_option maxRecDepth 40000 in
theorem zcs_74 : Jvm.Cond.selects (zyM 74).cls (zyM 74) (zyM 74) ∈ zbw := zin 292 rfl rfl
set_option maxRecDepth 40000 in
theorem zcl_75 : zcl (zyM 75) (zbM 75) (zlM 75) (ztM 75) 1 := ⟨zin 43 rfl rfl, zin 289 rfl rfl, ⟨by decide +kernel, by decide +kernel, by decide +kernel⟩, by decide⟩
set_option maxRecDepth 40000 in
theorem zci_75 : Jvm.Cond.instanceMethod (zyM 75) ∈ zbw := zin 287 rfl rfl
set_option maxRecDepth 40000 in
theorem zcs_75 : Jvm.Cond.selects (zyM 75).cls (zyM 75) (zyM 75) ∈ zbw := zin 288 rfl rfl
set_option maxRecDepth 40000 in
theorem zcl_76 : zcl (zyM 76) (zbM 76) (zlM 76) (ztM 76) 0 := ⟨zin 43 rfl rfl, zin 284 rfl rfl, ⟨by decide +kernel, by decide +kernel, by decide +kernel⟩, by decide⟩
set_option maxRecDepth 40000 in
theorem zci_76 : Jvm.Cond.instanceMethod (zyM 76) ∈ zbw := zin 282 rfl rfl
set_option maxRecDepth 40000 in
theorem zcs_76 : Jvm.Cond.selects (zyM 76).cls (zyM 76) (zyM 76) ∈ zbw := zin 283 rfl rfl
set_option maxRecDepth 40000 in
theorem zcl_77 : zcl (zyM 77) (zbM 77) (zlM 77) (ztM 77) 2 := ⟨zin 42 rfl rfl, zin 269 rfl rfl, ⟨by decide +kernel, by decide +kernel, by decide +kernel⟩, by decide⟩
set_option maxRecDepth 40000 in
theorem zci_77 : Jvm.Cond.instanceMethod (zyM 77) ∈ zbw := zin 267 rfl rfl
set_option maxRecDepth 40000 in
theorem zcs_77 : Jvm.Cond.selects (zyM 77).cls (zyM 77) (zyM 77) ∈ zbw := zin 268 rfl rfl
set_option maxRecDepth 40000 in
theorem zcl_78 : zcl (zyM 78) (zbM 78) (zlM 78) (ztM 78) 2 := ⟨zin 42 rfl rfl, zin 305 rfl rfl, ⟨by decide +kernel, by decide +kernel, by decide +kernel⟩, by decide⟩
set_option maxRecDepth 40000 in
theorem zci_78 : Jvm.Cond.instanceMethod (zyM 78) ∈ zbw := zin 303 rfl rfl
set_option maxRecDepth 40000 in
theorem zcs_78 : Jvm.Cond.selects (zyM 78).cls (zyM 78) (zyM 78) ∈ zbw := zin 304 rfl rfl
set_option maxRecDepth 40000 in
theorem zcl_79 : zcl (zyM 79) (zbM 79) (zlM 79) (ztM 79) 1 := ⟨zin 51 rfl rfl, zin 312 rfl rfl, ⟨by decide +kernel, by decide +kernel, by decide +kernel⟩, by decide⟩
set_option maxRecDepth 40000 in
theorem zct_79 : Jvm.Cond.static (zyM 79) ∈ zbw := zin 311 rfl rfl
set_option maxRecDepth 40000 in
theorem zcl_80 : zcl (zyM 80) (zbM 80) (zlM 80) (ztM 80) 2 := ⟨zin 42 rfl rfl, zin 309 rfl rfl, ⟨by decide +kernel, by decide +kernel, by decide +kernel⟩, by decide⟩
set_option maxRecDepth 40000 in
theorem zci_80 : Jvm.Cond.instanceMethod (zyM 80) ∈ zbw := zin 307 rfl rfl
set_option maxRecDepth 40000 in
theorem zcs_80 : Jvm.Cond.selects (zyM 80).cls (zyM 80) (zyM 80) ∈ zbw := zin 308 rfl rfl
set_option maxRecDepth 40000 in
theorem zcl_81 : zcl (zyM 81) (zbM 81) (zlM 81) (ztM 81) 3 := ⟨zin 43 rfl rfl, zin 324 rfl rfl, ⟨by decide +kernel, by decide +kernel, by decide +kernel⟩, by decide⟩
set_option maxRecDepth 40000 in
theorem zci_81 : Jvm.Cond.instanceMethod (zyM 81) ∈ zbw := zin 322 rfl rfl
set_option maxRecDepth 40000 in
theorem zcs_81 : Jvm.Cond.selects (zyM 81).cls (zyM 81) (zyM 81) ∈ zbw := zin 323 rfl rfl
set_option maxRecDepth 40000 in
theorem zcl_82 : zcl (zyM 82) (zbM 82) (zlM 82) (ztM 82) 1 := ⟨zin 43 rfl rfl, zin 332 rfl rfl, ⟨by decide +kernel, by decide +kernel, by decide +kernel⟩, by decide⟩
set_option maxRecDepth 40000 in
theorem zci_82 : Jvm.Cond.instanceMethod (zyM 82) ∈ zbw := zin 331 rfl rfl
set_option maxRecDepth 40000 in
theorem zcs_82 : Jvm.Cond.selects (zyM 82).cls (zyM 82) (zyM 82) ∈ zbw := zin 0 rfl rfl
set_option maxRecDepth 40000 in
theorem zcl_83 : zcl (zyM 83) (zbM 83) (zlM 83) (ztM 83) 0 := ⟨zin 43 rfl rfl, zin 328 rfl rfl, ⟨by decide +kernel, by decide +kernel, by decide +kernel⟩, by decide⟩
set_option maxRecDepth 40000 in
theorem zci_83 : Jvm.Cond.instanceMethod (zyM 83) ∈ zbw := zin 326 rfl rfl
set_option maxRecDepth 40000 in
theorem zcs_83 : Jvm.Cond.selects (zyM 83).cls (zyM 83) (zyM 83) ∈ zbw := zin 327 rfl rfl
set_option maxRecDepth 40000 in
theorem zcl_84 : zcl (zyM 84) (zbM 84) (zlM 84) (ztM 84) 3 := ⟨zin 42 rfl rfl, zin 319 rfl rfl, ⟨by decide +kernel, by decide +kernel, by decide +kernel⟩, by decide⟩
set_option maxRecDepth 40000 in
theorem zci_84 : Jvm.Cond.instanceMethod (zyM 84) ∈ zbw := zin 317 rfl rfl
set_option maxRecDepth 40000 in
theorem zcs_84 : Jvm.Cond.selects (zyM 84).cls (zyM 84) (zyM 84) ∈ zbw := zin 318 rfl rfl
set_option maxRecDepth 40000 in
theorem zcl_85 : zcl (zyM 85) (zbM 85) (zlM 85) (ztM 85) 2 := ⟨zin 44 rfl rfl, zin 344 rfl rfl, ⟨by decide +kernel, by decide +kernel, by decide +kernel⟩, by decide⟩
set_option maxRecDepth 40000 in
theorem zci_85 : Jvm.Cond.instanceMethod (zyM 85) ∈ zbw := zin 342 rfl rfl
set_option maxRecDepth 40000 in
theorem zcs_85 : Jvm.Cond.selects (zyM 85).cls (zyM 85) (zyM 85) ∈ zbw := zin 343 rfl rfl
set_option maxRecDepth 40000 in
theorem zcl_86 : zcl (zyM 86) (zbM 86) (zlM 86) (ztM 86) 2 := ⟨zin 44 rfl rfl, zin 340 rfl rfl, ⟨by decide +kernel, by decide +kernel, by decide +kernel⟩, by decide⟩
set_option maxRecDepth 40000 in
theorem zci_86 : Jvm.Cond.instanceMethod (zyM 86) ∈ zbw := zin 338 rfl rfl
set_option maxRecDepth 40000 in
theorem zcs_86 : Jvm.Cond.selects (zyM 86).cls (zyM 86) (zyM 86) ∈ zbw := zin 339 rfl rfl
set_option maxRecDepth 40000 in
theorem zcl_87 : zcl (zyM 87) (zbM 87) (zlM 87) (ztM 87) 1 := ⟨zin 44 rfl rfl, zin 356 rfl rfl, ⟨by decide +kernel, by decide +kernel, by decide +kernel⟩, by decide⟩
set_option maxRecDepth 40000 in
theorem zci_87 : Jvm.Cond.instanceMethod (zyM 87) ∈ zbw := zin 355 rfl rfl
set_option maxRecDepth 40000 in
theorem zcs_87 : Jvm.Cond.selects (zyM 87).cls (zyM 87) (zyM 87) ∈ zbw := zin 1 rfl rfl
set_option maxRecDepth 40000 in
theorem zcl_88 : zcl (zyM 88) (zbM 88) (zlM 88) (ztM 88) 3 := ⟨zin 44 rfl rfl, zin 352 rfl rfl, ⟨by decide +kernel, by decide +kernel, by decide +kernel⟩, by decide⟩
set_option maxRecDepth 40000 in
theorem zci_88 : Jvm.Cond.instanceMethod (zyM 88) ∈ zbw := zin 350 rfl rfl
set_option maxRecDepth 40000 in
theorem zcs_88 : Jvm.Cond.selects (zyM 88).cls (zyM 88) (zyM 88) ∈ zbw := zin 351 rfl rfl
set_option maxRecDepth 40000 in
theorem zcl_89 : zcl (zyM 89) (zbM 89) (zlM 89) (ztM 89) 3 := ⟨zin 42 rfl rfl, zin 336 rfl rfl, ⟨by decide +kernel, by decide +kernel, by decide +kernel⟩, by decide⟩
set_option maxRecDepth 40000 in
theorem zci_89 : Jvm.Cond.instanceMethod (zyM 89) ∈ zbw := zin 334 rfl rfl
set_option maxRecDepth 40000 in
theorem zcs_89 : Jvm.Cond.selects (zyM 89).cls (zyM 89) (zyM 89) ∈ zbw := zin 335 rfl rfl
set_option maxRecDepth 40000 in
theorem zcl_90 : zcl (zyM 90) (zbM 90) (zlM 90) (ztM 90) 1 := ⟨zin 46 rfl rfl, zin 372 rfl rfl, ⟨by decide +kernel, by decide +kernel, by decide +kernel⟩, by decide⟩
set_option maxRecDepth 40000 in
theorem zci_90 : Jvm.Cond.instanceMethod (zyM 90) ∈ zbw := zin 371 rfl rfl
set_option maxRecDepth 40000 in
theorem zcs_90 : Jvm.Cond.selects (zyM 90).cls (zyM 90) (zyM 90) ∈ zbw := zin 3 rfl rfl
set_option maxRecDepth 40000 in
theorem zcl_91 : zcl (zyM 91) (zbM 91) (zlM 91) (ztM 91) 2 := ⟨zin 46 rfl rfl, zin 376 rfl rfl, ⟨by decide +kernel, by decide +kernel, by decide +kernel⟩, by decide⟩
set_option maxRecDepth 40000 in
theorem zci_91 : Jvm.Cond.instanceMethod (zyM 91) ∈ zbw := zin 375 rfl rfl
set_option maxRecDepth 40000 in
theorem zcs_91 : Jvm.Cond.selects (zyM 91).cls (zyM 91) (zyM 91) ∈ zbw := zin 4 rfl rfl
set_option maxRecDepth 40000 in
theorem zcl_92 : zcl (zyM 92) (zbM 92) (zlM 92) (ztM 92) 1 := ⟨zin 46 rfl rfl, zin 380 rfl rfl, ⟨by decide +kernel, by decide +kernel, by decide +kernel⟩, by decide⟩
set_option maxRecDepth 40000 in
theorem zci_92 : Jvm.Cond.instanceMethod (zyM 92) ∈ zbw := zin 379 rfl rfl
set_option maxRecDepth 40000 in
theorem zcs_92 : Jvm.Cond.selects (zyM 92).cls (zyM 92) (zyM 92) ∈ zbw := zin 5 rfl rfl
set_option maxRecDepth 40000 in
theorem zcl_93 : zcl (zyM 93) (zbM 93) (zlM 93) (ztM 93) 1 := ⟨zin 46 rfl rfl, zin 368 rfl rfl, ⟨by decide +kernel, by decide +kernel, by decide +kernel⟩, by decide⟩
set_option maxRecDepth 40000 in
theorem zci_93 : Jvm.Cond.instanceMethod (zyM 93) ∈ zbw := zin 367 rfl rfl
set_option maxRecDepth 40000 in
theorem zcs_93 : Jvm.Cond.selects (zyM 93).cls (zyM 93) (zyM 93) ∈ zbw := zin 2 rfl rfl
set_option maxRecDepth 40000 in
theorem zcl_94 : zcl (zyM 94) (zbM 94) (zlM 94) (ztM 94) 2 := ⟨zin 46 rfl rfl, zin 384 rfl rfl, ⟨by decide +kernel, by decide +kernel, by decide +kernel⟩, by decide⟩
set_option maxRecDepth 40000 in
theorem zci_94 : Jvm.Cond.instanceMethod (zyM 94) ∈ zbw := zin 383 rfl rfl
set_option maxRecDepth 40000 in
theorem zcs_94 : Jvm.Cond.selects (zyM 94).cls (zyM 94) (zyM 94) ∈ zbw := zin 6 rfl rfl
set_option maxRecDepth 40000 in
theorem zcl_95 : zcl (zyM 95) (zbM 95) (zlM 95) (ztM 95) 0 := ⟨zin 46 rfl rfl, zin 364 rfl rfl, ⟨by decide +kernel, by decide +kernel, by decide +kernel⟩, by decide⟩
set_option maxRecDepth 40000 in
theorem zci_95 : Jvm.Cond.instanceMethod (zyM 95) ∈ zbw := zin 362 rfl rfl
set_option maxRecDepth 40000 in
theorem zcs_95 : Jvm.Cond.selects (zyM 95).cls (zyM 95) (zyM 95) ∈ zbw := zin 363 rfl rfl
set_option maxRecDepth 40000 in
theorem zcl_96 : zcl (zyM 96) (zbM 96) (zlM 96) (ztM 96) 0 := ⟨zin 42 rfl rfl, zin 360 rfl rfl, ⟨by decide +kernel, by decide +kernel, by decide +kernel⟩, by decide⟩
set_option maxRecDepth 40000 in
theorem zci_96 : Jvm.Cond.instanceMethod (zyM 96) ∈ zbw := zin 358 rfl rfl
set_option maxRecDepth 40000 in
theorem zcs_96 : Jvm.Cond.selects (zyM 96).cls (zyM 96) (zyM 96) ∈ zbw := zin 359 rfl rfl
set_option maxRecDepth 40000 in
theorem zcl_97 : zcl (zyM 97) (zbM 97) (zlM 97) (ztM 97) 2 := ⟨zin 42 rfl rfl, zin 392 rfl rfl, ⟨by decide +kernel, by decide +kernel, by decide +kernel⟩, by decide⟩
set_option maxRecDepth 40000 in
theorem zci_97 : Jvm.Cond.instanceMethod (zyM 97) ∈ zbw := zin 391 rfl rfl
set_option maxRecDepth 40000 in
theorem zcs_97 : Jvm.Cond.selects (zyM 97).cls (zyM 97) (zyM 97) ∈ zbw := zin 7 rfl rfl
set_option maxRecDepth 40000 in
theorem zcl_98 : zcl (zyM 98) (zbM 98) (zlM 98) (ztM 98) 1 := ⟨zin 44 rfl rfl, zin 400 rfl rfl, ⟨by decide +kernel, by decide +kernel, by decide +kernel⟩, by decide⟩
set_option maxRecDepth 40000 in
theorem zci_98 : Jvm.Cond.instanceMethod (zyM 98) ∈ zbw := zin 398 rfl rfl
set_option maxRecDepth 40000 in
theorem zcs_98 : Jvm.Cond.selects (zyM 98).cls (zyM 98) (zyM 98) ∈ zbw := zin 399 rfl rfl
set_option maxRecDepth 40000 in
theorem zcl_99 : zcl (zyM 99) (zbM 99) (zlM 99) (ztM 99) 2 := ⟨zin 43 rfl rfl, zin 396 rfl rfl, ⟨by decide +kernel, by decide +kernel, by decide +kernel⟩, by decide⟩
set_option maxRecDepth 40000 in
theorem zci_99 : Jvm.Cond.instanceMethod (zyM 99) ∈ zbw := zin 394 rfl rfl
set_option maxRecDepth 40000 in
theorem zcs_99 : Jvm.Cond.selects (zyM 99).cls (zyM 99) (zyM 99) ∈ zbw := zin 395 rfl rfl
set_option maxRecDepth 40000 in
theorem zcl_100 : zcl (zyM 100) (zbM 100) (zlM 100) (ztM 100) 2 := ⟨zin 42 rfl rfl, zin 388 rfl rfl, ⟨by decide +kernel, by decide +kernel, by decide +kernel⟩, by decide⟩
set_option maxRecDepth 40000 in
theorem zci_100 : Jvm.Cond.instanceMethod (zyM 100) ∈ zbw := zin 386 rfl rfl
set_option maxRecDepth 40000 in
theorem zcs_100 : Jvm.Cond.selects (zyM 100).cls (zyM 100) (zyM 100) ∈ zbw := zin 387 rfl rfl
set_option maxRecDepth 40000 in
theorem zcl_101 : zcl (zyM 101) (zbM 101) (zlM 101) (ztM 101) 4 := ⟨zin 42 rfl rfl, zin 408 rfl rfl, ⟨by decide +kernel, by decide +kernel, by decide +kernel⟩, by decide⟩
set_option maxRecDepth 40000 in
theorem zci_101 : Jvm.Cond.instanceMethod (zyM 101) ∈ zbw := zin 406 rfl rfl
set_option maxRecDepth 40000 in
theorem zcs_101 : Jvm.Cond.selects (zyM 101).cls (zyM 101) (zyM 101) ∈ zbw := zin 407 rfl rfl
set_option maxRecDepth 40000 in
theorem zcl_102 : zcl (zyM 102) (zbM 102) (zlM 102) (ztM 102) 1 := ⟨zin 47 rfl rfl, zin 417 rfl rfl, ⟨by decide +kernel, by decide +kernel, by decide +kernel⟩, by decide⟩
set_option maxRecDepth 40000 in
theorem zci_102 : Jvm.Cond.instanceMethod (zyM 102) ∈ zbw := zin 415 rfl rfl
set_option maxRecDepth 40000 in
theorem zcs_102 : Jvm.Cond.selects (zyM 102).cls (zyM 102) (zyM 102) ∈ zbw := zin 416 rfl rfl
set_option maxRecDepth 40000 in
theorem zcl_103 : zcl (zyM 103) (zbM 103) (zlM 103) (ztM 103) 1 := ⟨zin 47 rfl rfl, zin 433 rfl rfl, ⟨by decide +kernel, by decide +kernel, by decide +kernel⟩, by decide⟩
set_option maxRecDepth 40000 in
theorem zci_103 : Jvm.Cond.instanceMethod (zyM 103) ∈ zbw := zin 432 rfl rfl
set_option maxRecDepth 40000 in
theorem zcs_103 : Jvm.Cond.selects (zyM 103).cls (zyM 103) (zyM 103) ∈ zbw := zin 8 rfl rfl
set_option maxRecDepth 40000 in
theorem zcl_104 : zcl (zyM 104) (zbM 104) (zlM 104) (ztM 104) 3 := ⟨zin 47 rfl rfl, zin 427 rfl rfl, ⟨by decide +kernel, by decide +kernel, by decide +kernel⟩, by decide⟩
set_option maxRecDepth 40000 in
theorem zct_104 : Jvm.Cond.static (zyM 104) ∈ zbw := zin 426 rfl rfl
set_option maxRecDepth 40000 in
theorem zcl_105 : zcl (zyM 105) (zbM 105) (zlM 105) (ztM 105) 3 := ⟨zin 47 rfl rfl, zin 427 rfl rfl, ⟨by decide +kernel, by decide +kernel, by decide +kernel⟩, by decide⟩
set_option maxRecDepth 40000 in
theorem zct_105 : Jvm.Cond.static (zyM 105) ∈ zbw := zin 426 rfl rfl
set_option maxRecDepth 40000 in
theorem zcl_106 : zcl (zyM 106) (zbM 106) (zlM 106) (ztM 106) 3 := ⟨zin 47 rfl rfl, zin 427 rfl rfl, ⟨by decide +kernel, by decide +kernel, by decide +kernel⟩, by decide⟩
set_option maxRecDepth 40000 in
theorem zct_106 : Jvm.Cond.static (zyM 106) ∈ zbw := zin 426 rfl rfl
set_option maxRecDepth 40000 in
theorem zcl_107 : zcl (zyM 107) (zbM 107) (zlM 107) (ztM 107) 3 := ⟨zin 47 rfl rfl, zin 427 rfl rfl, ⟨by decide +kernel, by decide +kernel, by decide +kernel⟩, by decide⟩
set_option maxRecDepth 40000 in
theorem zct_107 : Jvm.Cond.static (zyM 107) ∈ zbw := zin 426 rfl rfl
set_option maxRecDepth 40000 in
theorem zcl_108 : zcl (zyM 108) (zbM 108) (zlM 108) (ztM 108) 3 := ⟨zin 47 rfl rfl, zin 427 rfl rfl, ⟨by decide +kernel, by decide +kernel, by decide +kernel⟩, by decide⟩
set_option maxRecDepth 40000 in
theorem zct_108 : Jvm.Cond.static (zyM 108) ∈ zbw := zin 426 rfl rfl
set_option maxRecDepth 40000 in
theorem zcl_109 : zcl (zyM 109) (zbM 109) (zlM 109) (ztM 109) 3 := ⟨zin 47 rfl rfl, zin 427 rfl rfl, ⟨by decide +kernel, by decide +kernel, by decide +kernel⟩, by decide⟩
set_option maxRecDepth 40000 in
theorem zct_109 : Jvm.Cond.static (zyM 109) ∈ zbw := zin 426 rfl rfl
set_option maxRecDepth 40000 in
theorem zcl_110 : zcl (zyM 110) (zbM 110) (zlM 110) (ztM 110) 3 := ⟨zin 47 rfl rfl, zin 427 rfl rfl, ⟨by decide +kernel, by decide +kernel, by decide +kernel⟩, by decide⟩
set_option maxRecDepth 40000 in
theorem zct_110 : Jvm.Cond.static (zyM 110) ∈ zbw := zin 426 rfl rfl
set_option maxRecDepth 40000 in
theorem zcl_111 : zcl (zyM 111) (zbM 111) (zlM 111) (ztM 111) 3 := ⟨zin 47 rfl rfl, zin 427 rfl rfl, ⟨by decide +kernel, by decide +kernel, by decide +kernel⟩, by decide⟩
set_option maxRecDepth 40000 in
theorem zct_111 : Jvm.Cond.static (zyM 111) ∈ zbw := zin 426 rfl rfl
set_option maxRecDepth 40000 in
theorem zcl_112 : zcl (zyM 112) (zbM 112) (zlM 112) (ztM 112) 3 := ⟨zin 47 rfl rfl, zin 427 rfl rfl, ⟨by decide +kernel, by decide +kernel, by decide +kernel⟩, by decide⟩
set_option maxRecDepth 40000 in
theorem zct_112 : Jvm.Cond.static (zyM 112) ∈ zbw := zin 426 rfl rfl
set_option maxRecDepth 40000 in
theorem zcl_113 : zcl (zyM 113) (zbM 113) (zlM 113) (ztM 113) 3 := ⟨zin 47 rfl rfl, zin 427 rfl rfl, ⟨by decide +kernel, by decide +kernel, by decide +kernel⟩, by decide⟩
set_option maxRecDepth 40000 in
theorem zct_113 : Jvm.Cond.static (zyM 113) ∈ zbw := zin 426 rfl rfl
set_option maxRecDepth 40000 in
theorem zcl_114 : zcl (zyM 114) (zbM 114) (zlM 114) (ztM 114) 0 := ⟨zin 47 rfl rfl, zin 424 rfl rfl, ⟨by decide +kernel, by decide +kernel, by decide +kernel⟩, by decide⟩
set_option maxRecDepth 40000 in
theorem zci_114 : Jvm.Cond.instanceMethod (zyM 114) ∈ zbw := zin 422 rfl rfl
set_option maxRecDepth 40000 in
theorem zcs_114 : Jvm.Cond.selects (zyM 114).cls (zyM 114) (zyM 114) ∈ zbw := zin 423 rfl rfl
set_option maxRecDepth 40000 in
theorem zcl_115 : zcl (zyM 115) (zbM 115) (zlM 115) (ztM 115) 0 := ⟨zin 42 rfl rfl, zin 413 rfl rfl, ⟨by decide +kernel, by decide +kernel, by decide +kernel⟩, by decide⟩
set_option maxRecDepth 40000 in
theorem zci_115 : Jvm.Cond.instanceMethod (zyM 115) ∈ zbw := zin 411 rfl rfl
set_option maxRecDepth 40000 in
theorem zcs_115 : Jvm.Cond.selects (zyM 115).cls (zyM 115) (zyM 115) ∈ zbw := zin 412 rfl rfl
set_option maxRecDepth 40000 in
theorem zcl_116 : zcl (zyM 116) (zbM 116) (zlM 116) (ztM 116) 2 := ⟨zin 43 rfl rfl, zin 446 rfl rfl, ⟨by decide +kernel, by decide +kernel, by decide +kernel⟩, by decide⟩
set_option maxRecDepth 40000 in
theorem zci_116 : Jvm.Cond.instanceMethod (zyM 116) ∈ zbw := zin 445 rfl rfl
set_option maxRecDepth 40000 in
theorem zcs_116 : Jvm.Cond.selects (zyM 116).cls (zyM 116) (zyM 116) ∈ zbw := zin 9 rfl rfl
set_option maxRecDepth 40000 in
theorem zcl_117 : zcl (zyM 117) (zbM 117) (zlM 117) (ztM 117) 2 := ⟨zin 43 rfl rfl, zin 442 rfl rfl, ⟨by decide +kernel, by decide +kernel, by decide +kernel⟩, by decide⟩
set_option maxRecDepth 40000 in
theorem zci_117 : Jvm.Cond.instanceMethod (zyM 117) ∈ zbw := zin 440 rfl rfl
set_option maxRecDepth 40000 in
theorem zcs_117 : Jvm.Cond.selects (zyM 117).cls (zyM 117) (zyM 117) ∈ zbw := zin 441 rfl rfl
set_option maxRecDepth 40000 in
theorem zcl_118 : zcl (zyM 118) (zbM 118) (zlM 118) (ztM 118) 3 := ⟨zin 43 rfl rfl, zin 450 rfl rfl, ⟨by decide +kernel, by decide +kernel, by decide +kernel⟩, by decide⟩
set_option maxRecDepth 40000 in
theorem zci_118 : Jvm.Cond.instanceMethod (zyM 118) ∈ zbw := zin 448 rfl rfl
set_option maxRecDepth 40000 in
theorem zcs_118 : Jvm.Cond.selects (zyM 118).cls (zyM 118) (zyM 118) ∈ zbw := zin 449 rfl rfl
set_option maxRecDepth 40000 in
theorem zcl_119 : zcl (zyM 119) (zbM 119) (zlM 119) (ztM 119) 3 := ⟨zin 43 rfl rfl, zin 455 rfl rfl, ⟨by decide +kernel, by decide +kernel, by decide +kernel⟩, by decide⟩
set_option maxRecDepth 40000 in
theorem zci_119 : Jvm.Cond.instanceMethod (zyM 119) ∈ zbw := zin 453 rfl rfl
set_option maxRecDepth 40000 in
theorem zcs_119 : Jvm.Cond.selects (zyM 119).cls (zyM 119) (zyM 119) ∈ zbw := zin 454 rfl rfl
set_option maxRecDepth 40000 in
theorem zcl_120 : zcl (zyM 120) (zbM 120) (zlM 120) (ztM 120) 2 := ⟨zin 42 rfl rfl, zin 438 rfl rfl, ⟨by decide +kernel, by decide +kernel, by decide +kernel⟩, by decide⟩
set_option maxRecDepth 40000 in
theorem zci_120 : Jvm.Cond.instanceMethod (zyM 120) ∈ zbw := zin 436 rfl rfl
set_option maxRecDepth 40000 in
theorem zcs_120 : Jvm.Cond.selects (zyM 120).cls (zyM 120) (zyM 120) ∈ zbw := zin 437 rfl rfl
set_option maxRecDepth 40000 in
theorem zcl_121 : zcl (zyM 121) (zbM 121) (zlM 121) (ztM 121) 1 := ⟨zin 46 rfl rfl, zin 463 rfl rfl, ⟨by decide +kernel, by decide +kernel, by decide +kernel⟩, by decide⟩
set_option maxRecDepth 40000 in
theorem zci_121 : Jvm.Cond.instanceMethod (zyM 121) ∈ zbw := zin 461 rfl rfl
set_option maxRecDepth 40000 in
theorem zcs_121 : Jvm.Cond.selects (zyM 121).cls (zyM 121) (zyM 121) ∈ zbw := zin 462 rfl rfl
set_option maxRecDepth 40000 in
theorem zcl_122 : zcl (zyM 122) (zbM 122) (zlM 122) (ztM 122) 1 := ⟨zin 42 rfl rfl, zin 459 rfl rfl, ⟨by decide +kernel, by decide +kernel, by decide +kernel⟩, by decide⟩
set_option maxRecDepth 40000 in
theorem zci_122 : Jvm.Cond.instanceMethod (zyM 122) ∈ zbw := zin 457 rfl rfl
set_option maxRecDepth 40000 in
theorem zcs_122 : Jvm.Cond.selects (zyM 122).cls (zyM 122) (zyM 122) ∈ zbw := zin 458 rfl rfl
set_option maxRecDepth 40000 in
theorem zcl_123 : zcl (zyM 123) (zbM 123) (zlM 123) (ztM 123) 0 := ⟨zin 42 rfl rfl, zin 467 rfl rfl, ⟨by decide +kernel, by decide +kernel, by decide +kernel⟩, by decide⟩
set_option maxRecDepth 40000 in
theorem zci_123 : Jvm.Cond.instanceMethod (zyM 123) ∈ zbw := zin 465 rfl rfl
set_option maxRecDepth 40000 in
theorem zcs_123 : Jvm.Cond.selects (zyM 123).cls (zyM 123) (zyM 123) ∈ zbw := zin 466 rfl rfl
set_option maxRecDepth 40000 in
theorem zcl_124 : zcl (zyM 124) (zbM 124) (zlM 124) (ztM 124) 1 := ⟨zin 45 rfl rfl, zin 475 rfl rfl, ⟨by decide +kernel, by decide +kernel, by decide +kernel⟩, by decide⟩
set_option maxRecDepth 40000 in
theorem zci_124 : Jvm.Cond.instanceMethod (zyM 124) ∈ zbw := zin 473 rfl rfl
set_option maxRecDepth 40000 in
theorem zcs_124 : Jvm.Cond.selects (zyM 124).cls (zyM 124) (zyM 124) ∈ zbw := zin 474 rfl rfl
set_option maxRecDepth 40000 in
theorem zcl_125 : zcl (zyM 125) (zbM 125) (zlM 125) (ztM 125) 0 := ⟨zin 42 rfl rfl, zin 471 rfl rfl, ⟨by decide +kernel, by decide +kernel, by decide +kernel⟩, by decide⟩
set_option maxRecDepth 40000 in
theorem zci_125 : Jvm.Cond.instanceMethod (zyM 125) ∈ zbw := zin 469 rfl rfl
set_option maxRecDepth 40000 in
theorem zcs_125 : Jvm.Cond.selects (zyM 125).cls (zyM 125) (zyM 125) ∈ zbw := zin 470 rfl rfl
set_option maxRecDepth 40000 in
theorem zcl_126 : zcl (zyM 126) (zbM 126) (zlM 126) (ztM 126) 0 := ⟨zin 42 rfl rfl, zin 479 rfl rfl, ⟨by decide +kernel, by decide +kernel, by decide +kernel⟩, by decide⟩
set_option maxRecDepth 40000 in
theorem zci_126 : Jvm.Cond.instanceMethod (zyM 126) ∈ zbw := zin 477 rfl rfl
set_option maxRecDepth 40000 in
theorem zcs_126 : Jvm.Cond.selects (zyM 126).cls (zyM 126) (zyM 126) ∈ zbw := zin 478 rfl rfl
set_option maxRecDepth 40000 in
theorem zcl_127 : zcl (zyM 127) (zbM 127) (zlM 127) (ztM 127) 0 := ⟨zin 42 rfl rfl, zin 484 rfl rfl, ⟨by decide +kernel, by decide +kernel, by decide +kernel⟩, by decide⟩
set_option maxRecDepth 40000 in
theorem zci_127 : Jvm.Cond.instanceMethod (zyM 127) ∈ zbw := zin 482 rfl rfl
set_option maxRecDepth 40000 in
theorem zcs_127 : Jvm.Cond.selects (zyM 127).cls (zyM 127) (zyM 127) ∈ zbw := zin 483 rfl rfl
set_option maxRecDepth 40000 in
theorem zcl_128 : zcl (zyM 128) (zbM 128) (zlM 128) (ztM 128) 1 := ⟨zin 44 rfl rfl, zin 492 rfl rfl, ⟨by decide +kernel, by decide +kernel, by decide +kernel⟩, by decide⟩
set_option maxRecDepth 40000 in
theorem zci_128 : Jvm.Cond.instanceMethod (zyM 128) ∈ zbw := zin 490 rfl rfl
set_option maxRecDepth 40000 in
theorem zcs_128 : Jvm.Cond.selects (zyM 128).cls (zyM 128) (zyM 128) ∈ zbw := zin 491 rfl rfl
set_option maxRecDepth 40000 in
theorem zcl_129 : zcl (zyM 129) (zbM 129) (zlM 129) (ztM 129) 1 := ⟨zin 43 rfl rfl, zin 498 rfl rfl, ⟨by decide +kernel, by decide +kernel, by decide +kernel⟩, by decide⟩
set_option maxRecDepth 40000 in
theorem zci_129 : Jvm.Cond.instanceMethod (zyM 129) ∈ zbw := zin 496 rfl rfl
set_option maxRecDepth 40000 in
theorem zcs_129 : Jvm.Cond.selects (zyM 129).cls (zyM 129) (zyM 129) ∈ zbw := zin 497 rfl rfl
set_option maxRecDepth 40000 in
theorem zcl_130 : zcl (zyM 130) (zbM 130) (zlM 130) (ztM 130) 2 := ⟨zin 42 rfl rfl, zin 488 rfl rfl, ⟨by decide +kernel, by decide +kernel, by decide +kernel⟩, by decide⟩
set_option maxRecDepth 40000 in
theorem zci_130 : Jvm.Cond.instanceMethod (zyM 130) ∈ zbw := zin 486 rfl rfl
set_option maxRecDepth 40000 in
theorem zcs_130 : Jvm.Cond.selects (zyM 130).cls (zyM 130) (zyM 130) ∈ zbw := zin 487 rfl rfl
set_option maxRecDepth 40000 in
theorem zcl_131 : zcl (zyM 131) (zbM 131) (zlM 131) (ztM 131) 2 := ⟨zin 42 rfl rfl, zin 502 rfl rfl, ⟨by decide +kernel, by decide +kernel, by decide +kernel⟩, by decide⟩
set_option maxRecDepth 40000 in
theorem zci_131 : Jvm.Cond.instanceMethod (zyM 131) ∈ zbw := zin 500 rfl rfl
set_option maxRecDepth 40000 in
theorem zcs_131 : Jvm.Cond.selects (zyM 131).cls (zyM 131) (zyM 131) ∈ zbw := zin 501 rfl rfl
set_option maxRecDepth 40000 in
theorem zcl_132 : zcl (zyM 132) (zbM 132) (zlM 132) (ztM 132) 1 := ⟨zin 42 rfl rfl, zin 506 rfl rfl, ⟨by decide +kernel, by decide +kernel, by decide +kernel⟩, by decide⟩
set_option maxRecDepth 40000 in
theorem zci_132 : Jvm.Cond.instanceMethod (zyM 132) ∈ zbw := zin 504 rfl rfl
set_option maxRecDepth 40000 in
theorem zcs_132 : Jvm.Cond.selects (zyM 132).cls (zyM 132) (zyM 132) ∈ zbw := zin 505 rfl rfl
set_option maxRecDepth 40000 in
theorem zcl_133 : zcl (zyM 133) (zbM 133) (zlM 133) (ztM 133) 2 := ⟨zin 42 rfl rfl, zin 510 rfl rfl, ⟨by decide +kernel, by decide +kernel, by decide +kernel⟩, by decide⟩
set_option maxRecDepth 40000 in
theorem zci_133 : Jvm.Cond.instanceMethod (zyM 133) ∈ zbw := zin 508 rfl rfl
set_option maxRecDepth 40000 in
theorem zcs_133 : Jvm.Cond.selects (zyM 133).cls (zyM 133) (zyM 133) ∈ zbw := zin 509 rfl rfl
set_option maxRecDepth 40000 in
theorem zcl_134 : zcl (zyM 134) (zbM 134) (zlM 134) (ztM 134) 0 := ⟨zin 47 rfl rfl, zin 518 rfl rfl, ⟨by decide +kernel, by decide +kernel, by decide +kernel⟩, by decide⟩
set_option maxRecDepth 40000 in
theorem zci_134 : Jvm.Cond.instanceMethod (zyM 134) ∈ zbw := zin 516 rfl rfl
set_option maxRecDepth 40000 in
theorem zcs_134 : Jvm.Cond.selects (zyM 134).cls (zyM 134) (zyM 134) ∈ zbw := zin 517 rfl rfl
set_option maxRecDepth 40000 in
theorem zcl_135 : zcl (zyM 135) (zbM 135) (zlM 135) (ztM 135) 1 := ⟨zin 42 rfl rfl, zin 514 rfl rfl, ⟨by decide +kernel, by decide +kernel, by decide +kernel⟩, by decide⟩
set_option maxRecDepth 40000 in
theorem zci_135 : Jvm.Cond.instanceMethod (zyM 135) ∈ zbw := zin 512 rfl rfl
set_option maxRecDepth 40000 in
theorem zcs_135 : Jvm.Cond.selects (zyM 135).cls (zyM 135) (zyM 135) ∈ zbw := zin 513 rfl rfl
set_option maxRecDepth 40000 in
theorem zcl_136 : zcl (zyM 136) (zbM 136) (zlM 136) (ztM 136) 1 := ⟨zin 42 rfl rfl, zin 522 rfl rfl, ⟨by decide +kernel, by decide +kernel, by decide +kernel⟩, by decide⟩
set_option maxRecDepth 40000 in
theorem zci_136 : Jvm.Cond.instanceMethod (zyM 136) ∈ zbw := zin 520 rfl rfl
set_option maxRecDepth 40000 in
theorem zcs_136 : Jvm.Cond.selects (zyM 136).cls (zyM 136) (zyM 136) ∈ zbw := zin 521 rfl rfl
set_option maxRecDepth 40000 in
theorem zcl_137 : zcl (zyM 137) (zbM 137) (zlM 137) (ztM 137) 2 := ⟨zin 47 rfl rfl, zin 530 rfl rfl, ⟨by decide +kernel, by decide +kernel, by decide +kernel⟩, by decide⟩
set_option maxRecDepth 40000 in
theorem zci_137 : Jvm.Cond.instanceMethod (zyM 137) ∈ zbw := zin 528 rfl rfl
set_option maxRecDepth 40000 in
theorem zcs_137 : Jvm.Cond.selects (zyM 137).cls (zyM 137) (zyM 137) ∈ zbw := zin 529 rfl rfl
set_option maxRecDepth 40000 in
theorem zcl_138 : zcl (zyM 138) (zbM 138) (zlM 138) (ztM 138) 2 := ⟨zin 42 rfl rfl, zin 526 rfl rfl, ⟨by decide +kernel, by decide +kernel, by decide +kernel⟩, by decide⟩
set_option maxRecDepth 40000 in
theorem zci_138 : Jvm.Cond.instanceMethod (zyM 138) ∈ zbw := zin 524 rfl rfl
set_option maxRecDepth 40000 in
theorem zcs_138 : Jvm.Cond.selects (zyM 138).cls (zyM 138) (zyM 138) ∈ zbw := zin 525 rfl rfl
set_option maxRecDepth 40000 in
theorem zcl_139 : zcl (zyM 139) (zbM 139) (zlM 139) (ztM 139) 1 := ⟨zin 47 rfl rfl, zin 545 rfl rfl, ⟨by decide +kernel, by decide +kernel, by decide +kernel⟩, by decide⟩
set_option maxRecDepth 40000 in
theorem zci_139 : Jvm.Cond.instanceMethod (zyM 139) ∈ zbw := zin 544 rfl rfl
set_option maxRecDepth 40000 in
theorem zcs_139 : Jvm.Cond.selects (zyM 139).cls (zyM 139) (zyM 139) ∈ zbw := zin 10 rfl rfl
set_option maxRecDepth 40000 in
theorem zcl_140 : zcl (zyM 140) (zbM 140) (zlM 140) (ztM 140) 2 := ⟨zin 47 rfl rfl, zin 541 rfl rfl, ⟨by decide +kernel, by decide +kernel, by decide +kernel⟩, by decide⟩
set_option maxRecDepth 40000 in
theorem zct_140 : Jvm.Cond.static (zyM 140) ∈ zbw := zin 540 rfl rfl
set_option maxRecDepth 40000 in
theorem zcl_141 : zcl (zyM 141) (zbM 141) (zlM 141) (ztM 141) 2 := ⟨zin 47 rfl rfl, zin 541 rfl rfl, ⟨by decide +kernel, by decide +kernel, by decide +kernel⟩, by decide⟩
set_option maxRecDepth 40000 in
theorem zct_141 : Jvm.Cond.static (zyM 141) ∈ zbw := zin 540 rfl rfl
set_option maxRecDepth 40000 in
theorem zcl_142 : zcl (zyM 142) (zbM 142) (zlM 142) (ztM 142) 2 := ⟨zin 47 rfl rfl, zin 541 rfl rfl, ⟨by decide +kernel, by decide +kernel, by decide +kernel⟩, by decide⟩
set_option maxRecDepth 40000 in
theorem zct_142 : Jvm.Cond.static (zyM 142) ∈ zbw := zin 540 rfl rfl
set_option maxRecDepth 40000 in
theorem zcl_143 : zcl (zyM 143) (zbM 143) (zlM 143) (ztM 143) 2 := ⟨zin 47 rfl rfl, zin 541 rfl rfl, ⟨by decide +kernel, by decide +kernel, by decide +kernel⟩, by decide⟩
set_option maxRecDepth 40000 in
theorem zct_143 : Jvm.Cond.static (zyM 143) ∈ zbw := zin 540 rfl rfl
set_option maxRecDepth 40000 in
theorem zcl_144 : zcl (zyM 144) (zbM 144) (zlM 144) (ztM 144) 2 := ⟨zin 47 rfl rfl, zin 541 rfl rfl, ⟨by decide +kernel, by decide +kernel, by decide +kernel⟩, by decide⟩
set_option maxRecDepth 40000 in
theorem zct_144 : Jvm.Cond.static (zyM 144) ∈ zbw := zin 540 rfl rfl
set_option maxRecDepth 40000 in
theorem zcl_145 : zcl (zyM 145) (zbM 145) (zlM 145) (ztM 145) 2 := ⟨zin 47 rfl rfl, zin 541 rfl rfl, ⟨by decide +kernel, by decide +kernel, by decide +kernel⟩, by decide⟩
set_option maxRecDepth 40000 in
theorem zct_145 : Jvm.Cond.static (zyM 145) ∈ zbw := zin 540 rfl rfl
set_option maxRecDepth 40000 in
theorem zcl_146 : zcl (zyM 146) (zbM 146) (zlM 146) (ztM 146) 2 := ⟨zin 47 rfl rfl, zin 541 rfl rfl, ⟨by decide +kernel, by decide +kernel, by decide +kernel⟩, by decide⟩
set_option maxRecDepth 40000 in
theorem zct_146 : Jvm.Cond.static (zyM 146) ∈ zbw := zin 540 rfl rfl
set_option maxRecDepth 40000 in
theorem zcl_147 : zcl (zyM 147) (zbM 147) (zlM 147) (ztM 147) 2 := ⟨zin 47 rfl rfl, zin 541 rfl rfl, ⟨by decide +kernel, by decide +kernel, by decide +kernel⟩, by decide⟩
set_option maxRecDepth 40000 in
theorem zct_147 : Jvm.Cond.static (zyM 147) ∈ zbw := zin 540 rfl rfl
set_option maxRecDepth 40000 in
theorem zcl_148 : zcl (zyM 148) (zbM 148) (zlM 148) (ztM 148) 2 := ⟨zin 47 rfl rfl, zin 541 rfl rfl, ⟨by decide +kernel, by decide +kernel, by decide +kernel⟩, by decide⟩
set_option maxRecDepth 40000 in
theorem zct_148 : Jvm.Cond.static (zyM 148) ∈ zbw := zin 540 rfl rfl
set_option maxRecDepth 40000 in
theorem zcl_149 : zcl (zyM 149) (zbM 149) (zlM 149) (ztM 149) 2 := ⟨zin 47 rfl rfl, zin 541 rfl rfl, ⟨by decide +kernel, by decide +kernel, by decide +kernel⟩, by decide⟩
set_option maxRecDepth 40000 in
theorem zct_149 : Jvm.Cond.static (zyM 149) ∈ zbw := zin 540 rfl rfl
set_option maxRecDepth 40000 in
theorem zcl_150 : zcl (zyM 150) (zbM 150) (zlM 150) (ztM 150) 0 := ⟨zin 47 rfl rfl, zin 538 rfl rfl, ⟨by decide +kernel, by decide +kernel, by decide +kernel⟩, by decide⟩
set_option maxRecDepth 40000 in
theorem zci_150 : Jvm.Cond.instanceMethod (zyM 150) ∈ zbw := zin 536 rfl rfl
set_option maxRecDepth 40000 in
theorem zcs_150 : Jvm.Cond.selects (zyM 150).cls (zyM 150) (zyM 150) ∈ zbw := zin 537 rfl rfl
set_option maxRecDepth 40000 in
theorem zcl_151 : zcl (zyM 151) (zbM 151) (zlM 151) (ztM 151) 0 := ⟨zin 42 rfl rfl, zin 534 rfl rfl, ⟨by decide +kernel, by decide +kernel, by decide +kernel⟩, by decide⟩
set_option maxRecDepth 40000 in
theorem zci_151 : Jvm.Cond.instanceMethod (zyM 151) ∈ zbw := zin 532 rfl rfl
set_option maxRecDepth 40000 in
theorem zcs_151 : Jvm.Cond.selects (zyM 151).cls (zyM 151) (zyM 151) ∈ zbw := zin 533 rfl rfl
set_option maxRecDepth 40000 in
theorem zcl_152 : zcl (zyM 152) (zbM 152) (zlM 152) (ztM 152) 2 := ⟨zin 47 rfl rfl, zin 557 rfl rfl, ⟨by decide +kernel, by decide +kernel, by decide +kernel⟩, by decide⟩
set_option maxRecDepth 40000 in
theorem zct_152 : Jvm.Cond.static (zyM 152) ∈ zbw := zin 556 rfl rfl
set_option maxRecDepth 40000 in
theorem zcl_153 : zcl (zyM 153) (zbM 153) (zlM 153) (ztM 153) 2 := ⟨zin 47 rfl rfl, zin 557 rfl rfl, ⟨by decide +kernel, by decide +kernel, by decide +kernel⟩, by decide⟩
set_option maxRecDepth 40000 in
theorem zct_153 : Jvm.Cond.static (zyM 153) ∈ zbw := zin 556 rfl rfl
set_option maxRecDepth 40000 in
theorem zcl_154 : zcl (zyM 154) (zbM 154) (zlM 154) (ztM 154) 2 := ⟨zin 47 rfl rfl, zin 557 rfl rfl, ⟨by decide +kernel, by decide +kernel, by decide +kernel⟩, by decide⟩
set_option maxRecDepth 40000 in
theorem zct_154 : Jvm.Cond.static (zyM 154) ∈ zbw := zin 556 rfl rfl
set_option maxRecDepth 40000 in
theorem zcl_155 : zcl (zyM 155) (zbM 155) (zlM 155) (ztM 155) 2 := ⟨zin 47 rfl rfl, zin 557 rfl rfl, ⟨by decide +kernel, by decide +kernel, by decide +kernel⟩, by decide⟩
set_option maxRecDepth 40000 in
theorem zct_155 : Jvm.Cond.static (zyM 155) ∈ zbw := zin 556 rfl rfl
set_option maxRecDepth 40000 in
theorem zcl_156 : zcl (zyM 156) (zbM 156) (zlM 156) (ztM 156) 2 := ⟨zin 47 rfl rfl, zin 557 rfl rfl, ⟨by decide +kernel, by decide +kernel, by decide +kernel⟩, by decide⟩
set_option maxRecDepth 40000 in
theorem zct_156 : Jvm.Cond.static (zyM 156) ∈ zbw := zin 556 rfl rfl
set_option maxRecDepth 40000 in
theorem zcl_157 : zcl (zyM 157) (zbM 157) (zlM 157) (ztM 157) 2 := ⟨zin 47 rfl rfl, zin 557 rfl rfl, ⟨by decide +kernel, by decide +kernel, by decide +kernel⟩, by decide⟩
set_option maxRecDepth 40000 in
theorem zct_157 : Jvm.Cond.static (zyM 157) ∈ zbw := zin 556 rfl rfl
set_option maxRecDepth 40000 in
theorem zcl_158 : zcl (zyM 158) (zbM 158) (zlM 158) (ztM 158) 2 := ⟨zin 47 rfl rfl, zin 557 rfl rfl, ⟨by decide +kernel, by decide +kernel, by decide +kernel⟩, by decide⟩
set_option maxRecDepth 40000 in
theorem zct_158 : Jvm.Cond.static (zyM 158) ∈ zbw := zin 556 rfl rfl
set_option maxRecDepth 40000 in
theorem zcl_159 : zcl (zyM 159) (zbM 159) (zlM 159) (ztM 159) 2 := ⟨zin 47 rfl rfl, zin 557 rfl rfl, ⟨by decide +kernel, by decide +kernel, by decide +kernel⟩, by decide⟩
set_option maxRecDepth 40000 in
theorem zct_159 : Jvm.Cond.static (zyM 159) ∈ zbw := zin 556 rfl rfl
set_option maxRecDepth 40000 in
theorem zcl_160 : zcl (zyM 160) (zbM 160) (zlM 160) (ztM 160) 2 := ⟨zin 47 rfl rfl, zin 557 rfl rfl, ⟨by decide +kernel, by decide +kernel, by decide +kernel⟩, by decide⟩
set_option maxRecDepth 40000 in
theorem zct_160 : Jvm.Cond.static (zyM 160) ∈ zbw := zin 556 rfl rfl
set_option maxRecDepth 40000 in
theorem zcl_161 : zcl (zyM 161) (zbM 161) (zlM 161) (ztM 161) 2 := ⟨zin 47 rfl rfl, zin 557 rfl rfl, ⟨by decide +kernel, by decide +kernel, by decide +kernel⟩, by decide⟩
set_option maxRecDepth 40000 in
theorem zct_161 : Jvm.Cond.static (zyM 161) ∈ zbw := zin 556 rfl rfl
set_option maxRecDepth 40000 in
theorem zcl_162 : zcl (zyM 162) (zbM 162) (zlM 162) (ztM 162) 0 := ⟨zin 47 rfl rfl, zin 554 rfl rfl, ⟨by decide +kernel, by decide +kernel, by decide +kernel⟩, by decide⟩
set_option maxRecDepth 40000 in
theorem zci_162 : Jvm.Cond.instanceMethod (zyM 162) ∈ zbw := zin 552 rfl rfl
set_option maxRecDepth 40000 in
theorem zcs_162 : Jvm.Cond.selects (zyM 162).cls (zyM 162) (zyM 162) ∈ zbw := zin 553 rfl rfl
set_option maxRecDepth 40000 in
theorem zcl_163 : zcl (zyM 163) (zbM 163) (zlM 163) (ztM 163) 1 := ⟨zin 42 rfl rfl, zin 550 rfl rfl, ⟨by decide +kernel, by decide +kernel, by decide +kernel⟩, by decide⟩
set_option maxRecDepth 40000 in
theorem zci_163 : Jvm.Cond.instanceMethod (zyM 163) ∈ zbw := zin 548 rfl rfl
set_option maxRecDepth 40000 in
theorem zcs_163 : Jvm.Cond.selects (zyM 163).cls (zyM 163) (zyM 163) ∈ zbw := zin 549 rfl rfl
set_option maxRecDepth 40000 in
theorem zcl_164 : zcl (zyM 164) (zbM 164) (zlM 164) (ztM 164) 1 := ⟨zin 47 rfl rfl, zin 565 rfl rfl, ⟨by decide +kernel, by decide +kernel, by decide +kernel⟩, by decide⟩
set_option maxRecDepth 40000 in
theorem zci_164 : Jvm.Cond.instanceMethod (zyM 164) ∈ zbw := zin 563 rfl rfl
set_option maxRecDepth 40000 in
theorem zcs_164 : Jvm.Cond.selects (zyM 164).cls (zyM 164) (zyM 164) ∈ zbw := zin 564 rfl rfl
set_option maxRecDepth 40000 in
theorem zcl_165 : zcl (zyM 165) (zbM 165) (zlM 165) (ztM 165) 0 := ⟨zin 42 rfl rfl, zin 561 rfl rfl, ⟨by decide +kernel, by decide +kernel, by decide +kernel⟩, by decide⟩
set_option maxRecDepth 40000 in
theorem zci_165 : Jvm.Cond.instanceMethod (zyM 165) ∈ zbw := zin 559 rfl rfl
set_option maxRecDepth 40000 in
theorem zcs_165 : Jvm.Cond.selects (zyM 165).cls (zyM 165) (zyM 165) ∈ zbw := zin 560 rfl rfl
set_option maxRecDepth 40000 in
theorem zcl_166 : zcl (zyM 166) (zbM 166) (zlM 166) (ztM 166) 2 := ⟨zin 42 rfl rfl, zin 569 rfl rfl, ⟨by decide +kernel, by decide +kernel, by decide +kernel⟩, by decide⟩
set_option maxRecDepth 40000 in
theorem zci_166 : Jvm.Cond.instanceMethod (zyM 166) ∈ zbw := zin 567 rfl rfl
set_option maxRecDepth 40000 in
theorem zcs_166 : Jvm.Cond.selects (zyM 166).cls (zyM 166) (zyM 166) ∈ zbw := zin 568 rfl rfl
set_option maxRecDepth 40000 in
theorem zcl_167 : zcl (zyM 167) (zbM 167) (zlM 167) (ztM 167) 1 := ⟨zin 43 rfl rfl, zin 577 rfl rfl, ⟨by decide +kernel, by decide +kernel, by decide +kernel⟩, by decide⟩
set_option maxRecDepth 40000 in
theorem zci_167 : Jvm.Cond.instanceMethod (zyM 167) ∈ zbw := zin 575 rfl rfl
set_option maxRecDepth 40000 in
theorem zcs_167 : Jvm.Cond.selects (zyM 167).cls (zyM 167) (zyM 167) ∈ zbw := zin 576 rfl rfl
set_option maxRecDepth 40000 in
theorem zcl_168 : zcl (zyM 168) (zbM 168) (zlM 168) (ztM 168) 0 := ⟨zin 43 rfl rfl, zin 581 rfl rfl, ⟨by decide +kernel, by decide +kernel, by decide +kernel⟩, by decide⟩
set_option maxRecDepth 40000 in
theorem zci_168 : Jvm.Cond.instanceMethod (zyM 168) ∈ zbw := zin 579 rfl rfl
set_option maxRecDepth 40000 in
theorem zcs_168 : Jvm.Cond.selects (zyM 168).cls (zyM 168) (zyM 168) ∈ zbw := zin 580 rfl rfl
set_option maxRecDepth 40000 in
theorem zcl_169 : zcl (zyM 169) (zbM 169) (zlM 169) (ztM 169) 0 := ⟨zin 43 rfl rfl, zin 586 rfl rfl, ⟨by decide +kernel, by decide +kernel, by decide +kernel⟩, by decide⟩
set_option maxRecDepth 40000 in
theorem zci_169 : Jvm.Cond.instanceMethod (zyM 169) ∈ zbw := zin 584 rfl rfl
set_option maxRecDepth 40000 in
theorem zcs_169 : Jvm.Cond.selects (zyM 169).cls (zyM 169) (zyM 169) ∈ zbw := zin 585 rfl rfl
set_option maxRecDepth 40000 in
theorem zcl_170 : zcl (zyM 170) (zbM 170) (zlM 170) (ztM 170) 1 := ⟨zin 42 rfl rfl, zin 573 rfl rfl, ⟨by decide +kernel, by decide +kernel, by decide +kernel⟩, by decide⟩
set_option maxRecDepth 40000 in
theorem zci_170 : Jvm.Cond.instanceMethod (zyM 170) ∈ zbw := zin 571 rfl rfl
set_option maxRecDepth 40000 in
theorem zcs_170 : Jvm.Cond.selects (zyM 170).cls (zyM 170) (zyM 170) ∈ zbw := zin 572 rfl rfl
end
section
/-! the codes, and that they are the class files' -/
def zc_0 : List zE := [(0, .iload_n 0, 1, 0, 0, 0, 0),
  (1, .iload_n 1, 1, 0, 0, 0, 0),
  (2, .if_icmp .lt 12, 3, 0, 14, 0, 0),
  (5, .iload_n 0, 1, 0, 0, 0, 0),
  (6, .iload_n 2, 1, 0, 0, 0, 0),
  (7, .if_icmp .gt 7, 3, 0, 14, 0, 0),
  (10, .iconst 1, 1, 1, 0, 0, 0),
  (11, .goto 4, 3, 0, 15, 0, 0),
  (14, .iconst 0, 1, 0, 0, 0, 0),
  (15, .ireturn, 1, 0, 0, 0, 0)]
set_option maxRecDepth 40000 in
theorem zd_0 : ∀ q ∈ zc_0, decode (zbM 0) q.1 = .ok (q.2.1, zlen q.2.2.1 q.2.1) := by decide +kernel
set_option maxRecDepth 40000 in
theorem zo_0 : ∀ q ∈ zc_0, zOK zyM zbM zlM ztM zmci 0 (zyM 0).cls false q :=
  List.forall_mem_cons.mpr ⟨trivial, List.forall_mem_cons.mpr ⟨trivial, List.forall_mem_cons.mpr ⟨rfl, List.forall_mem_cons.mpr ⟨trivial, List.forall_mem_cons.mpr ⟨trivial, List.forall_mem_cons.mpr ⟨rfl, List.forall_mem_cons.mpr ⟨rfl, List.forall_mem_cons.mpr ⟨rfl, List.forall_mem_cons.mpr ⟨rfl, List.forall_mem_cons.mpr ⟨rfl, fun _ h => absurd h List.not_mem_nil⟩⟩⟩⟩⟩⟩⟩⟩⟩⟩
def zc_1 : List zE := [(0, .iload_n 0, 1, 0, 0, 0, 0),
  (1, .iconst 0, 1, 0, 0, 0, 0),
  (2, .iconst 3, 1, 3, 0, 0, 0),
  (3, .invokestatic 39, 3, 0, 1, 0, 3),
  (6, .ireturn, 1, 0, 0, 0, 0)]
set_option maxRecDepth 40000 in
theorem zd_1 : ∀ q ∈ zc_1, decode (zbM 1) q.1 = .ok (q.2.1, zlen q.2.2.1 q.2.1) := by decide +kernel
set_option maxRecDepth 40000 in
theorem zo_1 : ∀ q ∈ zc_1, zOK zyM zbM zlM ztM zmci 1 (zyM 1).cls false q :=
  List.forall_mem_cons.mpr ⟨trivial, List.forall_mem_cons.mpr ⟨rfl, List.forall_mem_cons.mpr ⟨rfl, List.forall_mem_cons.mpr ⟨(Or.inr (Or.inr (Or.inr (Or.inl ⟨rfl, by decide, zcl_0, zct_0, zin 658 rfl rfl⟩)))), List.forall_mem_cons.mpr ⟨rfl, fun _ h => absurd h List.not_mem_nil⟩⟩⟩⟩⟩
def zc_2 : List zE := [(0, .aload_n 0, 1, 0, 0, 0, 0),
  (1, .getfield 51, 3, 0, 0, 6, 2),
  (4, .iconst 4, 1, 4, 0, 0, 0),
  (5, .if_icmp .ne 44, 3, 0, 49, 0, 0),
  (8, .iconst 0, 1, 0, 0, 0, 0),
  (9, .istore_n 1, 1, 0, 0, 0, 0),
  (10, .iload_n 1, 1, 0, 0, 0, 0),
  (11, .sipush 450, 3, 450, 0, 0, 0),
  (14, .if_icmp .ge 25, 3, 0, 39, 0, 0),
  (17, .aload_n 0, 1, 0, 0, 0, 0),
  (18, .getfield 13, 3, 0, 0, 6, 1),
  (21, .iload_n 1, 1, 0, 0, 0, 0),
  (22, .aload_n 0, 1, 0, 0, 0, 0),
  (23, .getfield 13, 3, 0, 0, 6, 1),
  (26, .iload_n 1, 1, 0, 0, 0, 0),
  (27, .sipush 150, 3, 150, 0, 0, 0),
  (30, .iadd, 1, 0, 0, 0, 0),
  (31, .iaload, 1, 0, 0, 0, 0),
  (32, .iastore, 1, 0, 0, 0, 0),
  (33, .iinc 1 1, 3, 1, 0, 0, 0),
  (36, .goto (-26), 3, 0, 10, 0, 0),
  (39, .aload_n 0, 1, 0, 0, 0, 0),
  (40, .dup, 1, 0, 0, 0, 0),
  (41, .getfield 51, 3, 0, 0, 6, 2),
  (44, .iconst 1, 1, 1, 0, 0, 0),
  (45, .isub, 1, 0, 0, 0, 0),
  (46, .putfield 51, 3, 0, 0, 6, 2),
  (49, .iconst 0, 1, 0, 0, 0, 0),
  (50, .istore_n 1, 1, 0, 0, 0, 0),
  (51, .iload_n 1, 1, 0, 0, 0, 0),
  (52, .sipush 150, 3, 150, 0, 0, 0),
  (55, .if_icmp .ge 30, 3, 0, 85, 0, 0),
  (58, .aload_n 0, 1, 0, 0, 0, 0),
  (59, .getfield 13, 3, 0, 0, 6, 1),
  (62, .sipush 150, 3, 150, 0, 0, 0),
  (65, .aload_n 0, 1, 0, 0, 0, 0),
  (66, .getfield 51, 3, 0, 0, 6, 2),
  (69, .imul, 1, 0, 0, 0, 0),
  (70, .iload_n 1, 1, 0, 0, 0, 0),
  (71, .iadd, 1, 0, 0, 0, 0),
  (72, .aload_n 0, 1, 0, 0, 0, 0),
  (73, .getfield 7, 3, 0, 0, 6, 0),
  (76, .iload_n 1, 1, 0, 0, 0, 0),
  (77, .iaload, 1, 0, 0, 0, 0),
  (78, .iastore, 1, 0, 0, 0, 0),
  (79, .iinc 1 1, 3, 1, 0, 0, 0),
  (82, .goto (-31), 3, 0, 51, 0, 0),
  (85, .aload_n 0, 1, 0, 0, 0, 0),
  (86, .dup, 1, 0, 0, 0, 0),
  (87, .getfield 51, 3, 0, 0, 6, 2),
  (90, .iconst 1, 1, 1, 0, 0, 0),
  (91, .iadd, 1, 0, 0, 0, 0),
  (92, .putfield 51, 3, 0, 0, 6, 2),
  (95, .return_, 1, 0, 0, 0, 0)]
set_option maxRecDepth 40000 in
theorem zd_2 : ∀ q ∈ zc_2, decode (zbM 2) q.1 = .ok (q.2.1, zlen q.2.2.1 q.2.1) := by decide +kernel
set_option maxRecDepth 40000 in
theorem zo_2 : ∀ q ∈ zc_2, zOK zyM zbM zlM ztM zmci 2 (zyM 2).cls false q :=
  List.forall_mem_cons.mpr ⟨trivial, List.forall_mem_cons.mpr ⟨⟨by decide, by decide, zin 595 rfl rfl⟩, List.forall_mem_cons.mpr ⟨rfl, List.forall_mem_cons.mpr ⟨rfl, List.forall_mem_cons.mpr ⟨rfl, List.forall_mem_cons.mpr ⟨trivial, List.forall_mem_cons.mpr ⟨trivial, List.forall_mem_cons.mpr ⟨rfl, List.forall_mem_cons.mpr ⟨rfl, List.forall_mem_cons.mpr ⟨trivial, List.forall_mem_cons.mpr ⟨⟨by decide, by decide, zin 594 rfl rfl⟩, List.forall_mem_cons.mpr ⟨trivial, List.forall_mem_cons.mpr ⟨trivial, List.forall_mem_cons.mpr ⟨⟨by decide, by decide, zin 594 rfl rfl⟩, List.forall_mem_cons.mpr ⟨trivial, List.forall_mem_cons.mpr ⟨rfl, List.forall_mem_cons.mpr ⟨trivial, List.forall_mem_cons.mpr ⟨(Or.inl rfl), List.forall_mem_cons.mpr ⟨trivial, List.forall_mem_cons.mpr ⟨rfl, List.forall_mem_cons.mpr ⟨rfl, List.forall_mem_cons.mpr ⟨trivial, List.forall_mem_cons.mpr ⟨trivial, List.forall_mem_cons.mpr ⟨⟨by decide, by decide, zin 595 rfl rfl⟩, List.forall_mem_cons.mpr ⟨rfl, List.forall_mem_cons.mpr ⟨trivial, List.forall_mem_cons.mpr ⟨⟨by decide, by decide, zin 595 rfl rfl, rfl⟩, List.forall_mem_cons.mpr ⟨rfl, List.forall_mem_cons.mpr ⟨trivial, List.forall_mem_cons.mpr ⟨trivial, List.forall_mem_cons.mpr ⟨rfl, List.forall_mem_cons.mpr ⟨rfl, List.forall_mem_cons.mpr ⟨trivial, List.forall_mem_cons.mpr ⟨⟨by decide, by decide, zin 594 rfl rfl⟩, List.forall_mem_cons.mpr ⟨rfl, List.forall_mem_cons.mpr ⟨trivial, List.forall_mem_cons.mpr ⟨⟨by decide, by decide, zin 595 rfl rfl⟩, List.forall_mem_cons.mpr ⟨trivial, List.forall_mem_cons.mpr ⟨trivial, List.forall_mem_cons.mpr ⟨trivial, List.forall_mem_cons.mpr ⟨trivial, List.forall_mem_cons.mpr ⟨⟨by decide, by decide, zin 593 rfl rfl⟩, List.forall_mem_cons.mpr ⟨trivial, List.forall_mem_cons.mpr ⟨(Or.inl rfl), List.forall_mem_cons.mpr ⟨trivial, List.forall_mem_cons.mpr ⟨rfl, List.forall_mem_cons.mpr ⟨rfl, List.forall_mem_cons.mpr ⟨trivial, List.forall_mem_cons.mpr ⟨trivial, List.forall_mem_cons.mpr ⟨⟨by decide, by decide, zin 595 rfl rfl⟩, List.forall_mem_cons.mpr ⟨rfl, List.forall_mem_cons.mpr ⟨trivial, List.forall_mem_cons.mpr ⟨⟨by decide, by decide, zin 595 rfl rfl, rfl⟩, List.forall_mem_cons.mpr ⟨rfl, fun _ h => absurd h List.not_mem_nil⟩⟩⟩⟩⟩⟩⟩⟩⟩⟩⟩⟩⟩⟩⟩⟩⟩⟩⟩⟩⟩⟩⟩⟩⟩⟩⟩⟩⟩⟩⟩⟩⟩⟩⟩⟩⟩⟩⟩⟩⟩⟩⟩⟩⟩⟩⟩⟩⟩⟩⟩⟩⟩⟩
def zc_3 : List zE := [(0, .aload_n 0, 1, 0, 0, 0, 0),
  (1, .getfield 7, 3, 0, 0, 6, 0),
  (4, .iconst 5, 1, 5, 0, 0, 0),
  (5, .iload_n 1, 1, 0, 0, 0, 0),
  (6, .imul, 1, 0, 0, 0, 0),
  (7, .iload_n 2, 1, 0, 0, 0, 0),
  (8, .iadd, 1, 0, 0, 0, 0),
  (9, .iload_n 3, 1, 0, 0, 0, 0),
  (10, .iastore, 1, 0, 0, 0, 0),
  (11, .return_, 1, 0, 0, 0, 0)]
set_option maxRecDepth 40000 in
theorem zd_3 : ∀ q ∈ zc_3, decode (zbM 3) q.1 = .ok (q.2.1, zlen q.2.2.1 q.2.1) := by decide +kernel
set_option maxRecDepth 40000 in
theorem zo_3 : ∀ q ∈ zc_3, zOK zyM zbM zlM ztM zmci 3 (zyM 3).cls false q :=
  List.forall_mem_cons.mpr ⟨trivial, List.forall_mem_cons.mpr ⟨⟨by decide, by decide, zin 593 rfl rfl⟩, List.forall_mem_cons.mpr ⟨rfl, List.forall_mem_cons.mpr ⟨trivial, List.forall_mem_cons.mpr ⟨trivial, List.forall_mem_cons.mpr ⟨trivial, List.forall_mem_cons.mpr ⟨trivial, List.forall_mem_cons.mpr ⟨trivial, List.forall_mem_cons.mpr ⟨trivial, List.forall_mem_cons.mpr ⟨rfl, fun _ h => absurd h List.not_mem_nil⟩⟩⟩⟩⟩⟩⟩⟩⟩⟩
def zc_4 : List zE := [(0, .iload_n 1, 1, 0, 0, 0, 0),
  (1, .invokestatic 74, 3, 0, 1, 1, 1),
  (4, .ifCond .eq 13, 3, 0, 17, 0, 0),
  (7, .iload_n 2, 1, 0, 0, 0, 0),
  (8, .iconst 1, 1, 1, 0, 0, 0),
  (9, .bipush 99, 2, 99, 0, 0, 0),
  (11, .invokestatic 39, 3, 0, 1, 0, 3),
  (14, .ifCond .ne 6, 3, 0, 20, 0, 0),
  (17, .bipush (-2), 2, (-2), 0, 0, 0),
  (19, .ireturn, 1, 0, 0, 0, 0),
  (20, .aload_n 0, 1, 0, 0, 0, 0),
  (21, .getfield 7, 3, 0, 0, 6, 0),
  (24, .sipush 149, 3, 149, 0, 0, 0),
  (27, .iaload, 1, 0, 0, 0, 0),
  (28, .istore_n 3, 1, 0, 0, 0, 0),
  (29, .iload_n 3, 1, 0, 0, 0, 0),
  (30, .bipush 8, 2, 8, 0, 0, 0),
  (32, .if_icmp .ne 6, 3, 0, 38, 0, 0),
  (35, .bipush (-3), 2, (-3), 0, 0, 0),
  (37, .ireturn, 1, 0, 0, 0, 0),
  (38, .aload_n 0, 1, 0, 0, 0, 0),
  (39, .invokevirtual 77, 3, 0, 0, 2, 0),
  (42, .aload_n 0, 1, 0, 0, 0, 0),
  (43, .iload_n 3, 1, 0, 0, 0, 0),
  (44, .iconst 0, 1, 0, 0, 0, 0),
  (45, .iconst 1, 1, 1, 0, 0, 0),
  (46, .invokevirtual 80, 3, 0, 0, 3, 3),
  (49, .aload_n 0, 1, 0, 0, 0, 0),
  (50, .iload_n 3, 1, 0, 0, 0, 0),
  (51, .iconst 1, 1, 1, 0, 0, 0),
  (52, .iload_n 1, 1, 0, 0, 0, 0),
  (53, .invokevirtual 80, 3, 0, 0, 3, 3),
  (56, .aload_n 0, 1, 0, 0, 0, 0),
  (57, .iload_n 3, 1, 0, 0, 0, 0),
  (58, .iconst 2, 1, 2, 0, 0, 0),
  (59, .bipush 15, 2, 15, 0, 0, 0),
  (61, .invokevirtual 80, 3, 0, 0, 3, 3),
  (64, .aload_n 0, 1, 0, 0, 0, 0),
  (65, .iload_n 3, 1, 0, 0, 0, 0),
  (66, .iconst 3, 1, 3, 0, 0, 0),
  (67, .iload_n 2, 1, 0, 0, 0, 0),
  (68, .invokevirtual 80, 3, 0, 0, 3, 3),
  (71, .aload_n 0, 1, 0, 0, 0, 0),
  (72, .iload_n 3, 1, 0, 0, 0, 0),
  (73, .iconst 4, 1, 4, 0, 0, 0),
  (74, .iconst 0, 1, 0, 0, 0, 0),
  (75, .invokevirtual 80, 3, 0, 0, 3, 3),
  (78, .aload_n 0, 1, 0, 0, 0, 0),
  (79, .getfield 7, 3, 0, 0, 6, 0),
  (82, .sipush 149, 3, 149, 0, 0, 0),
  (85, .dup2, 1, 0, 0, 0, 0),
  (86, .iaload, 1, 0, 0, 0, 0),
  (87, .iconst 1, 1, 1, 0, 0, 0),
  (88, .iadd, 1, 0, 0, 0, 0),
  (89, .iastore, 1, 0, 0, 0, 0),
  (90, .iload_n 3, 1, 0, 0, 0, 0),
  (91, .ireturn, 1, 0, 0, 0, 0)]
set_option maxRecDepth 40000 in
theorem zd_4 : ∀ q ∈ zc_4, decode (zbM 4) q.1 = .ok (q.2.1, zlen q.2.2.1 q.2.1) := by decide +kernel
set_option maxRecDepth 40000 in
theorem zo_4 : ∀ q ∈ zc_4, zOK zyM zbM zlM ztM zmci 4 (zyM 4).cls false q :=
  List.forall_mem_cons.mpr ⟨trivial, List.forall_mem_cons.mpr ⟨(Or.inr (Or.inr (Or.inr (Or.inl ⟨rfl, by decide, zcl_1, zct_1, zin 655 rfl rfl⟩)))), List.forall_mem_cons.mpr ⟨rfl, List.forall_mem_cons.mpr ⟨trivial, List.forall_mem_cons.mpr ⟨rfl, List.forall_mem_cons.mpr ⟨rfl, List.forall_mem_cons.mpr ⟨(Or.inr (Or.inr (Or.inr (Or.inl ⟨rfl, by decide, zcl_0, zct_0, zin 658 rfl rfl⟩)))), List.forall_mem_cons.mpr ⟨rfl, List.forall_mem_cons.mpr ⟨rfl, List.forall_mem_cons.mpr ⟨rfl, List.forall_mem_cons.mpr ⟨trivial, List.forall_mem_cons.mpr ⟨⟨by decide, by decide, zin 593 rfl rfl⟩, List.forall_mem_cons.mpr ⟨rfl, List.forall_mem_cons.mpr ⟨(Or.inl rfl), List.forall_mem_cons.mpr ⟨trivial, List.forall_mem_cons.mpr ⟨trivial, List.forall_mem_cons.mpr ⟨rfl, List.forall_mem_cons.mpr ⟨rfl, List.forall_mem_cons.mpr ⟨rfl, List.forall_mem_cons.mpr ⟨rfl, List.forall_mem_cons.mpr ⟨trivial, List.forall_mem_cons.mpr ⟨⟨by decide, by decide, rfl, zcl_2, zin 661 rfl rfl, zci_2, zcs_2⟩, List.forall_mem_cons.mpr ⟨trivial, List.forall_mem_cons.mpr ⟨trivial, List.forall_mem_cons.mpr ⟨rfl, List.forall_mem_cons.mpr ⟨rfl, List.forall_mem_cons.mpr ⟨⟨by decide, by decide, rfl, zcl_3, zin 665 rfl rfl, zci_3, zcs_3⟩, List.forall_mem_cons.mpr ⟨trivial, List.forall_mem_cons.mpr ⟨trivial, List.forall_mem_cons.mpr ⟨rfl, List.forall_mem_cons.mpr ⟨trivial, List.forall_mem_cons.mpr ⟨⟨by decide, by decide, rfl, zcl_3, zin 665 rfl rfl, zci_3, zcs_3⟩, List.forall_mem_cons.mpr ⟨trivial, List.forall_mem_cons.mpr ⟨trivial, List.forall_mem_cons.mpr ⟨rfl, List.forall_mem_cons.mpr ⟨rfl, List.forall_mem_cons.mpr ⟨⟨by decide, by decide, rfl, zcl_3, zin 665 rfl rfl, zci_3, zcs_3⟩, List.forall_mem_cons.mpr ⟨trivial, List.forall_mem_cons.mpr ⟨trivial, List.forall_mem_cons.mpr ⟨rfl, List.forall_mem_cons.mpr ⟨trivial, List.forall_mem_cons.mpr ⟨⟨by decide, by decide, rfl, zcl_3, zin 665 rfl rfl, zci_3, zcs_3⟩, List.forall_mem_cons.mpr ⟨trivial, List.forall_mem_cons.mpr ⟨trivial, List.forall_mem_cons.mpr ⟨rfl, List.forall_mem_cons.mpr ⟨rfl, List.forall_mem_cons.mpr ⟨⟨by decide, by decide, rfl, zcl_3, zin 665 rfl rfl, zci_3, zcs_3⟩, List.forall_mem_cons.mpr ⟨trivial, List.forall_mem_cons.mpr ⟨⟨by decide, by decide, zin 593 rfl rfl⟩, List.forall_mem_cons.mpr ⟨rfl, List.forall_mem_cons.mpr ⟨trivial, List.forall_mem_cons.mpr ⟨(Or.inl rfl), List.forall_mem_cons.mpr ⟨rfl, List.forall_mem_cons.mpr ⟨trivial, List.forall_mem_cons.mpr ⟨trivial, List.forall_mem_cons.mpr ⟨trivial, List.forall_mem_cons.mpr ⟨rfl, fun _ h => absurd h List.not_mem_nil⟩⟩⟩⟩⟩⟩⟩⟩⟩⟩⟩⟩⟩⟩⟩⟩⟩⟩⟩⟩⟩⟩⟩⟩⟩⟩⟩⟩⟩⟩⟩⟩⟩⟩⟩⟩⟩⟩⟩⟩⟩⟩⟩⟩⟩⟩⟩⟩⟩⟩⟩⟩⟩⟩⟩⟩⟩
def zc_5 : List zE := [(0, .aload_n 0, 1, 0, 0, 0, 0),
  (1, .getfield 7, 3, 0, 0, 6, 0),
  (4, .iconst 5, 1, 5, 0, 0, 0),
  (5, .iload_n 1, 1, 0, 0, 0, 0),
  (6, .imul, 1, 0, 0, 0, 0),
  (7, .iload_n 2, 1, 0, 0, 0, 0),
  (8, .iadd, 1, 0, 0, 0, 0),
  (9, .iaload, 1, 0, 0, 0, 0),
  (10, .ireturn, 1, 0, 0, 0, 0)]
set_option maxRecDepth 40000 in
theorem zd_5 : ∀ q ∈ zc_5, decode (zbM 5) q.1 = .ok (q.2.1, zlen q.2.2.1 q.2.1) := by decide +kernel
set_option maxRecDepth 40000 in
theorem zo_5 : ∀ q ∈ zc_5, zOK zyM zbM zlM ztM zmci 5 (zyM 5).cls false q :=
  List.forall_mem_cons.mpr ⟨trivial, List.forall_mem_cons.mpr ⟨⟨by decide, by decide, zin 593 rfl rfl⟩, List.forall_mem_cons.mpr ⟨rfl, List.forall_mem_cons.mpr ⟨trivial, List.forall_mem_cons.mpr ⟨trivial, List.forall_mem_cons.mpr ⟨trivial, List.forall_mem_cons.mpr ⟨trivial, List.forall_mem_cons.mpr ⟨(Or.inl rfl), List.forall_mem_cons.mpr ⟨rfl, fun _ h => absurd h List.not_mem_nil⟩⟩⟩⟩⟩⟩⟩⟩⟩
def zc_6 : List zE := [(0, .iload_n 1, 1, 0, 0, 0, 0),
  (1, .iconst 0, 1, 0, 0, 0, 0),
  (2, .aload_n 0, 1, 0, 0, 0, 0),
  (3, .getfield 7, 3, 0, 0, 6, 0),
  (6, .sipush 149, 3, 149, 0, 0, 0),
  (9, .iaload, 1, 0, 0, 0, 0),
  (10, .iconst 1, 1, 1, 0, 0, 0),
  (11, .isub, 1, 0, 0, 0, 0),
  (12, .invokestatic 39, 3, 0, 1, 0, 3),
  (15, .ifCond .eq 17, 3, 0, 32, 0, 0),
  (18, .aload_n 0, 1, 0, 0, 0, 0),
  (19, .iload_n 1, 1, 0, 0, 0, 0),
  (20, .iconst 0, 1, 0, 0, 0, 0),
  (21, .invokevirtual 43, 3, 0, 0, 5, 2),
  (24, .iconst 1, 1, 1, 0, 0, 0),
  (25, .if_icmp .ne 7, 3, 0, 32, 0, 0),
  (28, .iconst 1, 1, 1, 0, 0, 0),
  (29, .goto 4, 3, 0, 33, 0, 0),
  (32, .iconst 0, 1, 0, 0, 0, 0),
  (33, .ireturn, 1, 0, 0, 0, 0)]
set_option maxRecDepth 40000 in
theorem zd_6 : ∀ q ∈ zc_6, decode (zbM 6) q.1 = .ok (q.2.1, zlen q.2.2.1 q.2.1) := by decide +kernel
set_option maxRecDepth 40000 in
theorem zo_6 : ∀ q ∈ zc_6, zOK zyM zbM zlM ztM zmci 6 (zyM 6).cls false q :=
  List.forall_mem_cons.mpr ⟨trivial, List.forall_mem_cons.mpr ⟨rfl, List.forall_mem_cons.mpr ⟨trivial, List.forall_mem_cons.mpr ⟨⟨by decide, by decide, zin 593 rfl rfl⟩, List.forall_mem_cons.mpr ⟨rfl, List.forall_mem_cons.mpr ⟨(Or.inl rfl), List.forall_mem_cons.mpr ⟨rfl, List.forall_mem_cons.mpr ⟨trivial, List.forall_mem_cons.mpr ⟨(Or.inr (Or.inr (Or.inr (Or.inl ⟨rfl, by decide, zcl_0, zct_0, zin 658 rfl rfl⟩)))), List.forall_mem_cons.mpr ⟨rfl, List.forall_mem_cons.mpr ⟨trivial, List.forall_mem_cons.mpr ⟨trivial, List.forall_mem_cons.mpr ⟨rfl, List.forall_mem_cons.mpr ⟨⟨by decide, by decide, rfl, zcl_5, zin 681 rfl rfl, zci_5, zcs_5⟩, List.forall_mem_cons.mpr ⟨rfl, List.forall_mem_cons.mpr ⟨rfl, List.forall_mem_cons.mpr ⟨rfl, List.forall_mem_cons.mpr ⟨rfl, List.forall_mem_cons.mpr ⟨rfl, List.forall_mem_cons.mpr ⟨rfl, fun _ h => absurd h List.not_mem_nil⟩⟩⟩⟩⟩⟩⟩⟩⟩⟩⟩⟩⟩⟩⟩⟩⟩⟩⟩⟩
def zc_7 : List zE := [(0, .aload_n 0, 1, 0, 0, 0, 0),
  (1, .iload_n 1, 1, 0, 0, 0, 0),
  (2, .invokevirtual 47, 3, 0, 0, 6, 1),
  (5, .ifCond .ne 7, 3, 0, 12, 0, 0),
  (8, .iconst 1, 1, 1, 0, 0, 0),
  (9, .goto 4, 3, 0, 13, 0, 0),
  (12, .iconst 0, 1, 0, 0, 0, 0),
  (13, .ireturn, 1, 0, 0, 0, 0)]
set_option maxRecDepth 40000 in
theorem zd_7 : ∀ q ∈ zc_7, decode (zbM 7) q.1 = .ok (q.2.1, zlen q.2.2.1 q.2.1) := by decide +kernel
set_option maxRecDepth 40000 in
theorem zo_7 : ∀ q ∈ zc_7, zOK zyM zbM zlM ztM zmci 7 (zyM 7).cls false q :=
  List.forall_mem_cons.mpr ⟨trivial, List.forall_mem_cons.mpr ⟨trivial, List.forall_mem_cons.mpr ⟨⟨by decide, by decide, rfl, zcl_6, zin 677 rfl rfl, zci_6, zcs_6⟩, List.forall_mem_cons.mpr ⟨rfl, List.forall_mem_cons.mpr ⟨rfl, List.forall_mem_cons.mpr ⟨rfl, List.forall_mem_cons.mpr ⟨rfl, List.forall_mem_cons.mpr ⟨rfl, fun _ h => absurd h List.not_mem_nil⟩⟩⟩⟩⟩⟩⟩⟩
def zc_8 : List zE := [(0, .aload_n 0, 1, 0, 0, 0, 0),
  (1, .getfield 7, 3, 0, 0, 6, 0),
  (4, .bipush 40, 2, 40, 0, 0, 0),
  (6, .bipush 8, 2, 8, 0, 0, 0),
  (8, .iload_n 1, 1, 0, 0, 0, 0),
  (9, .imul, 1, 0, 0, 0, 0),
  (10, .iadd, 1, 0, 0, 0, 0),
  (11, .iload_n 2, 1, 0, 0, 0, 0),
  (12, .iadd, 1, 0, 0, 0, 0),
  (13, .iaload, 1, 0, 0, 0, 0),
  (14, .ireturn, 1, 0, 0, 0, 0)]
set_option maxRecDepth 40000 in
theorem zd_8 : ∀ q ∈ zc_8, decode (zbM 8) q.1 = .ok (q.2.1, zlen q.2.2.1 q.2.1) := by decide +kernel
set_option maxRecDepth 40000 in
theorem zo_8 : ∀ q ∈ zc_8, zOK zyM zbM zlM ztM zmci 8 (zyM 8).cls false q :=
  List.forall_mem_cons.mpr ⟨trivial, List.forall_mem_cons.mpr ⟨⟨by decide, by decide, zin 593 rfl rfl⟩, List.forall_mem_cons.mpr ⟨rfl, List.forall_mem_cons.mpr ⟨rfl, List.forall_mem_cons.mpr ⟨trivial, List.forall_mem_cons.mpr ⟨trivial, List.forall_mem_cons.mpr ⟨trivial, List.forall_mem_cons.mpr ⟨trivial, List.forall_mem_cons.mpr ⟨trivial, List.forall_mem_cons.mpr ⟨(Or.inl rfl), List.forall_mem_cons.mpr ⟨rfl, fun _ h => absurd h List.not_mem_nil⟩⟩⟩⟩⟩⟩⟩⟩⟩⟩⟩
def zc_9 : List zE := [(0, .aload_n 0, 1, 0, 0, 0, 0),
  (1, .getfield 7, 3, 0, 0, 6, 0),
  (4, .sipush 133, 3, 133, 0, 0, 0),
  (7, .iconst 4, 1, 4, 0, 0, 0),
  (8, .iload_n 1, 1, 0, 0, 0, 0),
  (9, .imul, 1, 0, 0, 0, 0),
  (10, .iadd, 1, 0, 0, 0, 0),
  (11, .iload_n 2, 1, 0, 0, 0, 0),
  (12, .iadd, 1, 0, 0, 0, 0),
  (13, .iaload, 1, 0, 0, 0, 0),
  (14, .iconst 1, 1, 1, 0, 0, 0),
  (15, .if_icmp .ne 7, 3, 0, 22, 0, 0),
  (18, .iconst 1, 1, 1, 0, 0, 0),
  (19, .goto 4, 3, 0, 23, 0, 0),
  (22, .iconst 0, 1, 0, 0, 0, 0),
  (23, .ireturn, 1, 0, 0, 0, 0)]
set_option maxRecDepth 40000 in
theorem zd_9 : ∀ q ∈ zc_9, decode (zbM 9) q.1 = .ok (q.2.1, zlen q.2.2.1 q.2.1) := by decide +kernel
set_option maxRecDepth 40000 in
theorem zo_9 : ∀ q ∈ zc_9, zOK zyM zbM zlM ztM zmci 9 (zyM 9).cls false q :=
  List.forall_mem_cons.mpr ⟨trivial, List.forall_mem_cons.mpr ⟨⟨by decide, by decide, zin 593 rfl rfl⟩, List.forall_mem_cons.mpr ⟨rfl, List.forall_mem_cons.mpr ⟨rfl, List.forall_mem_cons.mpr ⟨trivial, List.forall_mem_cons.mpr ⟨trivial, List.forall_mem_cons.mpr ⟨trivial, List.forall_mem_cons.mpr ⟨trivial, List.forall_mem_cons.mpr ⟨trivial, List.forall_mem_cons.mpr ⟨(Or.inl rfl), List.forall_mem_cons.mpr ⟨rfl, List.forall_mem_cons.mpr ⟨rfl, List.forall_mem_cons.mpr ⟨rfl, List.forall_mem_cons.mpr ⟨rfl, List.forall_mem_cons.mpr ⟨rfl, List.forall_mem_cons.mpr ⟨rfl, fun _ h => absurd h List.not_mem_nil⟩⟩⟩⟩⟩⟩⟩⟩⟩⟩⟩⟩⟩⟩⟩⟩
def zc_10 : List zE := [(0, .aload_n 0, 1, 0, 0, 0, 0),
  (1, .iload_n 1, 1, 0, 0, 0, 0),
  (2, .iload_n 2, 1, 0, 0, 0, 0),
  (3, .invokevirtual 54, 3, 0, 0, 8, 2),
  (6, .ifCond .le 26, 3, 0, 32, 0, 0),
  (9, .aload_n 0, 1, 0, 0, 0, 0),
  (10, .aload_n 0, 1, 0, 0, 0, 0),
  (11, .iload_n 1, 1, 0, 0, 0, 0),
  (12, .iconst 1, 1, 1, 0, 0, 0),
  (13, .invokevirtual 43, 3, 0, 0, 5, 2),
  (16, .aload_n 0, 1, 0, 0, 0, 0),
  (17, .iload_n 2, 1, 0, 0, 0, 0),
  (18, .iconst 1, 1, 1, 0, 0, 0),
  (19, .invokevirtual 43, 3, 0, 0, 5, 2),
  (22, .invokevirtual 60, 3, 0, 0, 9, 2),
  (25, .ifCond .eq 7, 3, 0, 32, 0, 0),
  (28, .iconst 1, 1, 1, 0, 0, 0),
  (29, .goto 4, 3, 0, 33, 0, 0),
  (32, .iconst 0, 1, 0, 0, 0, 0),
  (33, .ireturn, 1, 0, 0, 0, 0)]
set_option maxRecDepth 40000 in
theorem zd_10 : ∀ q ∈ zc_10, decode (zbM 10) q.1 = .ok (q.2.1, zlen q.2.2.1 q.2.1) := by decide +kernel
set_option maxRecDepth 40000 in
theorem zo_10 : ∀ q ∈ zc_10, zOK zyM zbM zlM ztM zmci 10 (zyM 10).cls false q :=
  List.forall_mem_cons.mpr ⟨trivial, List.forall_mem_cons.mpr ⟨trivial, List.forall_mem_cons.mpr ⟨trivial, List.forall_mem_cons.mpr ⟨⟨by decide, by decide, rfl, zcl_8, zin 701 rfl rfl, zci_8, zcs_8⟩, List.forall_mem_cons.mpr ⟨rfl, List.forall_mem_cons.mpr ⟨trivial, List.forall_mem_cons.mpr ⟨trivial, List.forall_mem_cons.mpr ⟨trivial, List.forall_mem_cons.mpr ⟨rfl, List.forall_mem_cons.mpr ⟨⟨by decide, by decide, rfl, zcl_5, zin 681 rfl rfl, zci_5, zcs_5⟩, List.forall_mem_cons.mpr ⟨trivial, List.forall_mem_cons.mpr ⟨trivial, List.forall_mem_cons.mpr ⟨rfl, List.forall_mem_cons.mpr ⟨⟨by decide, by decide, rfl, zcl_5, zin 681 rfl rfl, zci_5, zcs_5⟩, List.forall_mem_cons.mpr ⟨⟨by decide, by decide, rfl, zcl_9, zin 705 rfl rfl, zci_9, zcs_9⟩, List.forall_mem_cons.mpr ⟨rfl, List.forall_mem_cons.mpr ⟨rfl, List.forall_mem_cons.mpr ⟨rfl, List.forall_mem_cons.mpr ⟨rfl, List.forall_mem_cons.mpr ⟨rfl, fun _ h => absurd h List.not_mem_nil⟩⟩⟩⟩⟩⟩⟩⟩⟩⟩⟩⟩⟩⟩⟩⟩⟩⟩⟩⟩
def zc_11 : List zE := [(0, .iconst 0, 1, 0, 0, 0, 0),
  (1, .istore_n 2, 1, 0, 0, 0, 0),
  (2, .iconst 0, 1, 0, 0, 0, 0),
  (3, .istore_n 3, 1, 0, 0, 0, 0),
  (4, .iload_n 3, 1, 0, 0, 0, 0),
  (5, .aload_n 0, 1, 0, 0, 0, 0),
  (6, .getfield 7, 3, 0, 0, 6, 0),
  (9, .sipush 149, 3, 149, 0, 0, 0),
  (12, .iaload, 1, 0, 0, 0, 0),
  (13, .if_icmp .ge 26, 3, 0, 39, 0, 0),
  (16, .iload_n 2, 1, 0, 0, 0, 0),
  (17, .aload_n 0, 1, 0, 0, 0, 0),
  (18, .iload_n 1, 1, 0, 0, 0, 0),
  (19, .iload_n 3, 1, 0, 0, 0, 0),
  (20, .invokevirtual 64, 3, 0, 0, 10, 2),
  (23, .ifCond .eq 7, 3, 0, 30, 0, 0),
  (26, .iconst 1, 1, 1, 0, 0, 0),
  (27, .goto 4, 3, 0, 31, 0, 0),
  (30, .iconst 0, 1, 0, 0, 0, 0),
  (31, .iadd, 1, 0, 0, 0, 0),
  (32, .istore_n 2, 1, 0, 0, 0, 0),
  (33, .iinc 3 1, 3, 1, 0, 0, 0),
  (36, .goto (-32), 3, 0, 4, 0, 0),
  (39, .iload_n 2, 1, 0, 0, 0, 0),
  (40, .ireturn, 1, 0, 0, 0, 0)]
set_option maxRecDepth 40000 in
theorem zd_11 : ∀ q ∈ zc_11, decode (zbM 11) q.1 = .ok (q.2.1, zlen q.2.2.1 q.2.1) := by decide +kernel
set_option maxRecDepth 40000 in
theorem zo_11 : ∀ q ∈ zc_11, zOK zyM zbM zlM ztM zmci 11 (zyM 11).cls false q :=
  List.forall_mem_cons.mpr ⟨rfl, List.forall_mem_cons.mpr ⟨trivial, List.forall_mem_cons.mpr ⟨rfl, List.forall_mem_cons.mpr ⟨trivial, List.forall_mem_cons.mpr ⟨trivial, List.forall_mem_cons.mpr ⟨trivial, List.forall_mem_cons.mpr ⟨⟨by decide, by decide, zin 593 rfl rfl⟩, List.forall_mem_cons.mpr ⟨rfl, List.forall_mem_cons.mpr ⟨(Or.inl rfl), List.forall_mem_cons.mpr ⟨rfl, List.forall_mem_cons.mpr ⟨trivial, List.forall_mem_cons.mpr ⟨trivial, List.forall_mem_cons.mpr ⟨trivial, List.forall_mem_cons.mpr ⟨trivial, List.forall_mem_cons.mpr ⟨⟨by decide, by decide, rfl, zcl_10, zin 697 rfl rfl, zci_10, zcs_10⟩, List.forall_mem_cons.mpr ⟨rfl, List.forall_mem_cons.mpr ⟨rfl, List.forall_mem_cons.mpr ⟨rfl, List.forall_mem_cons.mpr ⟨rfl, List.forall_mem_cons.mpr ⟨trivial, List.forall_mem_cons.mpr ⟨trivial, List.forall_mem_cons.mpr ⟨rfl, List.forall_mem_cons.mpr ⟨rfl, List.forall_mem_cons.mpr ⟨trivial, List.forall_mem_cons.mpr ⟨rfl, fun _ h => absurd h List.not_mem_nil⟩⟩⟩⟩⟩⟩⟩⟩⟩⟩⟩⟩⟩⟩⟩⟩⟩⟩⟩⟩⟩⟩⟩⟩⟩
def zc_12 : List zE := [(0, .aload_n 0, 1, 0, 0, 0, 0),
  (1, .iload_n 1, 1, 0, 0, 0, 0),
  (2, .iconst 2, 1, 2, 0, 0, 0),
  (3, .invokevirtual 43, 3, 0, 0, 5, 2),
  (6, .aload_n 0, 1, 0, 0, 0, 0),
  (7, .iload_n 1, 1, 0, 0, 0, 0),
  (8, .iconst 1, 1, 1, 0, 0, 0),
  (9, .invokevirtual 43, 3, 0, 0, 5, 2),
  (12, .ishr, 1, 0, 0, 0, 0),
  (13, .iconst 1, 1, 1, 0, 0, 0),
  (14, .iand, 1, 0, 0, 0, 0),
  (15, .ifCond .eq 11, 3, 0, 26, 0, 0),
  (18, .aload_n 0, 1, 0, 0, 0, 0),
  (19, .iload_n 1, 1, 0, 0, 0, 0),
  (20, .invokevirtual 67, 3, 0, 0, 11, 1),
  (23, .ifCond .le 7, 3, 0, 30, 0, 0),
  (26, .iconst 1, 1, 1, 0, 0, 0),
  (27, .goto 4, 3, 0, 31, 0, 0),
  (30, .iconst 0, 1, 0, 0, 0, 0),
  (31, .ireturn, 1, 0, 0, 0, 0)]
set_option maxRecDepth 40000 in
theorem zd_12 : ∀ q ∈ zc_12, decode (zbM 12) q.1 = .ok (q.2.1, zlen q.2.2.1 q.2.1) := by decide +kernel
set_option maxRecDepth 40000 in
theorem zo_12 : ∀ q ∈ zc_12, zOK zyM zbM zlM ztM zmci 12 (zyM 12).cls false q :=
  List.forall_mem_cons.mpr ⟨trivial, List.forall_mem_cons.mpr ⟨trivial, List.forall_mem_cons.mpr ⟨rfl, List.forall_mem_cons.mpr ⟨⟨by decide, by decide, rfl, zcl_5, zin 681 rfl rfl, zci_5, zcs_5⟩, List.forall_mem_cons.mpr ⟨trivial, List.forall_mem_cons.mpr ⟨trivial, List.forall_mem_cons.mpr ⟨rfl, List.forall_mem_cons.mpr ⟨⟨by decide, by decide, rfl, zcl_5, zin 681 rfl rfl, zci_5, zcs_5⟩, List.forall_mem_cons.mpr ⟨trivial, List.forall_mem_cons.mpr ⟨rfl, List.forall_mem_cons.mpr ⟨trivial, List.forall_mem_cons.mpr ⟨rfl, List.forall_mem_cons.mpr ⟨trivial, List.forall_mem_cons.mpr ⟨trivial, List.forall_mem_cons.mpr ⟨⟨by decide, by decide, rfl, zcl_11, zin 693 rfl rfl, zci_11, zcs_11⟩, List.forall_mem_cons.mpr ⟨rfl, List.forall_mem_cons.mpr ⟨rfl, List.forall_mem_cons.mpr ⟨rfl, List.forall_mem_cons.mpr ⟨rfl, List.forall_mem_cons.mpr ⟨rfl, fun _ h => absurd h List.not_mem_nil⟩⟩⟩⟩⟩⟩⟩⟩⟩⟩⟩⟩⟩⟩⟩⟩⟩⟩⟩⟩
def zc_13 : List zE := [(0, .iconst 0, 1, 0, 0, 0, 0),
  (1, .istore_n 1, 1, 0, 0, 0, 0),
  (2, .iconst 0, 1, 0, 0, 0, 0),
  (3, .istore_n 2, 1, 0, 0, 0, 0),
  (4, .iload_n 2, 1, 0, 0, 0, 0),
  (5, .aload_n 0, 1, 0, 0, 0, 0),
  (6, .getfield 7, 3, 0, 0, 6, 0),
  (9, .sipush 149, 3, 149, 0, 0, 0),
  (12, .iaload, 1, 0, 0, 0, 0),
  (13, .if_icmp .ge 35, 3, 0, 48, 0, 0),
  (16, .iload_n 1, 1, 0, 0, 0, 0),
  (17, .aload_n 0, 1, 0, 0, 0, 0),
  (18, .iload_n 2, 1, 0, 0, 0, 0),
  (19, .invokevirtual 47, 3, 0, 0, 6, 1),
  (22, .ifCond .eq 17, 3, 0, 39, 0, 0),
  (25, .aload_n 0, 1, 0, 0, 0, 0),
  (26, .iload_n 2, 1, 0, 0, 0, 0),
  (27, .invokevirtual 71, 3, 0, 0, 12, 1),
  (30, .ifCond .eq 9, 3, 0, 39, 0, 0),
  (33, .iconst 1, 1, 1, 0, 0, 0),
  (34, .iload_n 2, 1, 0, 0, 0, 0),
  (35, .ishl, 1, 0, 0, 0, 0),
  (36, .goto 4, 3, 0, 40, 0, 0),
  (39, .iconst 0, 1, 0, 0, 0, 0),
  (40, .ior, 1, 0, 0, 0, 0),
  (41, .istore_n 1, 1, 0, 0, 0, 0),
  (42, .iinc 2 1, 3, 1, 0, 0, 0),
  (45, .goto (-41), 3, 0, 4, 0, 0),
  (48, .iload_n 1, 1, 0, 0, 0, 0),
  (49, .ireturn, 1, 0, 0, 0, 0)]
set_option maxRecDepth 40000 in
theorem zd_13 : ∀ q ∈ zc_13, decode (zbM 13) q.1 = .ok (q.2.1, zlen q.2.2.1 q.2.1) := by decide +kernel
set_option maxRecDepth 40000 in
theorem zo_13 : ∀ q ∈ zc_13, zOK zyM zbM zlM ztM zmci 13 (zyM 13).cls false q :=
  List.forall_mem_cons.mpr ⟨rfl, List.forall_mem_cons.mpr ⟨trivial, List.forall_mem_cons.mpr ⟨rfl, List.forall_mem_cons.mpr ⟨trivial, List.forall_mem_cons.mpr ⟨trivial, List.forall_mem_cons.mpr ⟨trivial, List.forall_mem_cons.mpr ⟨⟨by decide, by decide, zin 593 rfl rfl⟩, List.forall_mem_cons.mpr ⟨rfl, List.forall_mem_cons.mpr ⟨(Or.inl rfl), List.forall_mem_cons.mpr ⟨rfl, List.forall_mem_cons.mpr ⟨trivial, List.forall_mem_cons.mpr ⟨trivial, List.forall_mem_cons.mpr ⟨trivial, List.forall_mem_cons.mpr ⟨⟨by decide, by decide, rfl, zcl_6, zin 677 rfl rfl, zci_6, zcs_6⟩, List.forall_mem_cons.mpr ⟨rfl, List.forall_mem_cons.mpr ⟨trivial, List.forall_mem_cons.mpr ⟨trivial, List.forall_mem_cons.mpr ⟨⟨by decide, by decide, rfl, zcl_12, zin 689 rfl rfl, zci_12, zcs_12⟩, List.forall_mem_cons.mpr ⟨rfl, List.forall_mem_cons.mpr ⟨rfl, List.forall_mem_cons.mpr ⟨trivial, List.forall_mem_cons.mpr ⟨trivial, List.forall_mem_cons.mpr ⟨rfl, List.forall_mem_cons.mpr ⟨rfl, List.forall_mem_cons.mpr ⟨trivial, List.forall_mem_cons.mpr ⟨trivial, List.forall_mem_cons.mpr ⟨rfl, List.forall_mem_cons.mpr ⟨rfl, List.forall_mem_cons.mpr ⟨trivial, List.forall_mem_cons.mpr ⟨rfl, fun _ h => absurd h List.not_mem_nil⟩⟩⟩⟩⟩⟩⟩⟩⟩⟩⟩⟩⟩⟩⟩⟩⟩⟩⟩⟩⟩⟩⟩⟩⟩⟩⟩⟩⟩⟩
def zc_14 : List zE := [(0, .aload_n 0, 1, 0, 0, 0, 0),
  (1, .iload_n 1, 1, 0, 0, 0, 0),
  (2, .invokevirtual 84, 3, 0, 0, 7, 1),
  (5, .ifCond .eq 5, 3, 0, 10, 0, 0),
  (8, .iconst (-1), 1, (-1), 0, 0, 0),
  (9, .ireturn, 1, 0, 0, 0, 0),
  (10, .iload_n 2, 1, 0, 0, 0, 0),
  (11, .invokestatic 74, 3, 0, 1, 1, 1),
  (14, .ifCond .ne 6, 3, 0, 20, 0, 0),
  (17, .bipush (-2), 2, (-2), 0, 0, 0),
  (19, .ireturn, 1, 0, 0, 0, 0),
  (20, .aload_n 0, 1, 0, 0, 0, 0),
  (21, .iload_n 1, 1, 0, 0, 0, 0),
  (22, .iconst 4, 1, 4, 0, 0, 0),
  (23, .invokevirtual 43, 3, 0, 0, 5, 2),
  (26, .iconst 1, 1, 1, 0, 0, 0),
  (27, .if_icmp .ne 6, 3, 0, 33, 0, 0),
  (30, .bipush (-4), 2, (-4), 0, 0, 0),
  (32, .ireturn, 1, 0, 0, 0, 0),
  (33, .aload_n 0, 1, 0, 0, 0, 0),
  (34, .iload_n 1, 1, 0, 0, 0, 0),
  (35, .iconst 1, 1, 1, 0, 0, 0),
  (36, .invokevirtual 43, 3, 0, 0, 5, 2),
  (39, .iload_n 2, 1, 0, 0, 0, 0),
  (40, .if_icmp .ne 6, 3, 0, 46, 0, 0),
  (43, .bipush (-5), 2, (-5), 0, 0, 0),
  (45, .ireturn, 1, 0, 0, 0, 0),
  (46, .aload_n 0, 1, 0, 0, 0, 0),
  (47, .invokevirtual 77, 3, 0, 0, 2, 0),
  (50, .aload_n 0, 1, 0, 0, 0, 0),
  (51, .iload_n 1, 1, 0, 0, 0, 0),
  (52, .iconst 1, 1, 1, 0, 0, 0),
  (53, .iload_n 2, 1, 0, 0, 0, 0),
  (54, .invokevirtual 80, 3, 0, 0, 3, 3),
  (57, .aload_n 0, 1, 0, 0, 0, 0),
  (58, .invokevirtual 87, 3, 0, 0, 13, 0),
  (61, .ireturn, 1, 0, 0, 0, 0)]
set_option maxRecDepth 40000 in
theorem zd_14 : ∀ q ∈ zc_14, decode (zbM 14) q.1 = .ok (q.2.1, zlen q.2.2.1 q.2.1) := by decide +kernel
set_option maxRecDepth 40000 in
theorem zo_14 : ∀ q ∈ zc_14, zOK zyM zbM zlM ztM zmci 14 (zyM 14).cls false q :=
  List.forall_mem_cons.mpr ⟨trivial, List.forall_mem_cons.mpr ⟨trivial, List.forall_mem_cons.mpr ⟨⟨by decide, by decide, rfl, zcl_7, zin 673 rfl rfl, zci_7, zcs_7⟩, List.forall_mem_cons.mpr ⟨rfl, List.forall_mem_cons.mpr ⟨rfl, List.forall_mem_cons.mpr ⟨rfl, List.forall_mem_cons.mpr ⟨trivial, List.forall_mem_cons.mpr ⟨(Or.inr (Or.inr (Or.inr (Or.inl ⟨rfl, by decide, zcl_1, zct_1, zin 655 rfl rfl⟩)))), List.forall_mem_cons.mpr ⟨rfl, List.forall_mem_cons.mpr ⟨rfl, List.forall_mem_cons.mpr ⟨rfl, List.forall_mem_cons.mpr ⟨trivial, List.forall_mem_cons.mpr ⟨trivial, List.forall_mem_cons.mpr ⟨rfl, List.forall_mem_cons.mpr ⟨⟨by decide, by decide, rfl, zcl_5, zin 681 rfl rfl, zci_5, zcs_5⟩, List.forall_mem_cons.mpr ⟨rfl, List.forall_mem_cons.mpr ⟨rfl, List.forall_mem_cons.mpr ⟨rfl, List.forall_mem_cons.mpr ⟨rfl, List.forall_mem_cons.mpr ⟨trivial, List.forall_mem_cons.mpr ⟨trivial, List.forall_mem_cons.mpr ⟨rfl, List.forall_mem_cons.mpr ⟨⟨by decide, by decide, rfl, zcl_5, zin 681 rfl rfl, zci_5, zcs_5⟩, List.forall_mem_cons.mpr ⟨trivial, List.forall_mem_cons.mpr ⟨rfl, List.forall_mem_cons.mpr ⟨rfl, List.forall_mem_cons.mpr ⟨rfl, List.forall_mem_cons.mpr ⟨trivial, List.forall_mem_cons.mpr ⟨⟨by decide, by decide, rfl, zcl_2, zin 661 rfl rfl, zci_2, zcs_2⟩, List.forall_mem_cons.mpr ⟨trivial, List.forall_mem_cons.mpr ⟨trivial, List.forall_mem_cons.mpr ⟨rfl, List.forall_mem_cons.mpr ⟨trivial, List.forall_mem_cons.mpr ⟨⟨by decide, by decide, rfl, zcl_3, zin 665 rfl rfl, zci_3, zcs_3⟩, List.forall_mem_cons.mpr ⟨trivial, List.forall_mem_cons.mpr ⟨⟨by decide, by decide, rfl, zcl_13, zin 685 rfl rfl, zci_13, zcs_13⟩, List.forall_mem_cons.mpr ⟨rfl, fun _ h => absurd h List.not_mem_nil⟩⟩⟩⟩⟩⟩⟩⟩⟩⟩⟩⟩⟩⟩⟩⟩⟩⟩⟩⟩⟩⟩⟩⟩⟩⟩⟩⟩⟩⟩⟩⟩⟩⟩⟩⟩⟩
def zc_15 : List zE := [(0, .aload_n 0, 1, 0, 0, 0, 0),
  (1, .iload_n 1, 1, 0, 0, 0, 0),
  (2, .invokevirtual 84, 3, 0, 0, 7, 1),
  (5, .ifCond .eq 5, 3, 0, 10, 0, 0),
  (8, .iconst (-1), 1, (-1), 0, 0, 0),
  (9, .ireturn, 1, 0, 0, 0, 0),
  (10, .iload_n 2, 1, 0, 0, 0, 0),
  (11, .iconst 1, 1, 1, 0, 0, 0),
  (12, .bipush 15, 2, 15, 0, 0, 0),
  (14, .invokestatic 39, 3, 0, 1, 0, 3),
  (17, .ifCond .ne 6, 3, 0, 23, 0, 0),
  (20, .bipush (-2), 2, (-2), 0, 0, 0),
  (22, .ireturn, 1, 0, 0, 0, 0),
  (23, .aload_n 0, 1, 0, 0, 0, 0),
  (24, .iload_n 1, 1, 0, 0, 0, 0),
  (25, .iconst 2, 1, 2, 0, 0, 0),
  (26, .invokevirtual 43, 3, 0, 0, 5, 2),
  (29, .istore_n 3, 1, 0, 0, 0, 0),
  (30, .iload_n 3, 1, 0, 0, 0, 0),
  (31, .iload_n 2, 1, 0, 0, 0, 0),
  (32, .if_icmp .ne 6, 3, 0, 38, 0, 0),
  (35, .bipush (-5), 2, (-5), 0, 0, 0),
  (37, .ireturn, 1, 0, 0, 0, 0),
  (38, .aload_n 0, 1, 0, 0, 0, 0),
  (39, .invokevirtual 77, 3, 0, 0, 2, 0),
  (42, .aload_n 0, 1, 0, 0, 0, 0),
  (43, .iload_n 1, 1, 0, 0, 0, 0),
  (44, .iconst 2, 1, 2, 0, 0, 0),
  (45, .iload_n 2, 1, 0, 0, 0, 0),
  (46, .invokevirtual 80, 3, 0, 0, 3, 3),
  (49, .iload_n 3, 1, 0, 0, 0, 0),
  (50, .ireturn, 1, 0, 0, 0, 0)]
set_option maxRecDepth 40000 in
theorem zd_15 : ∀ q ∈ zc_15, decode (zbM 15) q.1 = .ok (q.2.1, zlen q.2.2.1 q.2.1) := by decide +kernel
set_option maxRecDepth 40000 in
theorem zo_15 : ∀ q ∈ zc_15, zOK zyM zbM zlM ztM zmci 15 (zyM 15).cls false q :=
  List.forall_mem_cons.mpr ⟨trivial, List.forall_mem_cons.mpr ⟨trivial, List.forall_mem_cons.mpr ⟨⟨by decide, by decide, rfl, zcl_7, zin 673 rfl rfl, zci_7, zcs_7⟩, List.forall_mem_cons.mpr ⟨rfl, List.forall_mem_cons.mpr ⟨rfl, List.forall_mem_cons.mpr ⟨rfl, List.forall_mem_cons.mpr ⟨trivial, List.forall_mem_cons.mpr ⟨rfl, List.forall_mem_cons.mpr ⟨rfl, List.forall_mem_cons.mpr ⟨(Or.inr (Or.inr (Or.inr (Or.inl ⟨rfl, by decide, zcl_0, zct_0, zin 658 rfl rfl⟩)))), List.forall_mem_cons.mpr ⟨rfl, List.forall_mem_cons.mpr ⟨rfl, List.forall_mem_cons.mpr ⟨rfl, List.forall_mem_cons.mpr ⟨trivial, List.forall_mem_cons.mpr ⟨trivial, List.forall_mem_cons.mpr ⟨rfl, List.forall_mem_cons.mpr ⟨⟨by decide, by decide, rfl, zcl_5, zin 681 rfl rfl, zci_5, zcs_5⟩, List.forall_mem_cons.mpr ⟨trivial, List.forall_mem_cons.mpr ⟨trivial, List.forall_mem_cons.mpr ⟨trivial, List.forall_mem_cons.mpr ⟨rfl, List.forall_mem_cons.mpr ⟨rfl, List.forall_mem_cons.mpr ⟨rfl, List.forall_mem_cons.mpr ⟨trivial, List.forall_mem_cons.mpr ⟨⟨by decide, by decide, rfl, zcl_2, zin 661 rfl rfl, zci_2, zcs_2⟩, List.forall_mem_cons.mpr ⟨trivial, List.forall_mem_cons.mpr ⟨trivial, List.forall_mem_cons.mpr ⟨rfl, List.forall_mem_cons.mpr ⟨trivial, List.forall_mem_cons.mpr ⟨⟨by decide, by decide, rfl, zcl_3, zin 665 rfl rfl, zci_3, zcs_3⟩, List.forall_mem_cons.mpr ⟨trivial, List.forall_mem_cons.mpr ⟨rfl, fun _ h => absurd h List.not_mem_nil⟩⟩⟩⟩⟩⟩⟩⟩⟩⟩⟩⟩⟩⟩⟩⟩⟩⟩⟩⟩⟩⟩⟩⟩⟩⟩⟩⟩⟩⟩⟩⟩
def zc_16 : List zE := [(0, .iconst 0, 1, 0, 0, 0, 0),
  (1, .istore_n 2, 1, 0, 0, 0, 0),
  (2, .iconst 0, 1, 0, 0, 0, 0),
  (3, .istore_n 3, 1, 0, 0, 0, 0),
  (4, .iload_n 3, 1, 0, 0, 0, 0),
  (5, .aload_n 0, 1, 0, 0, 0, 0),
  (6, .getfield 7, 3, 0, 0, 6, 0),
  (9, .sipush 149, 3, 149, 0, 0, 0),
  (12, .iaload, 1, 0, 0, 0, 0),
  (13, .if_icmp .ge 41, 3, 0, 54, 0, 0),
  (16, .iload_n 2, 1, 0, 0, 0, 0),
  (17, .aload_n 0, 1, 0, 0, 0, 0),
  (18, .iload_n 3, 1, 0, 0, 0, 0),
  (19, .invokevirtual 47, 3, 0, 0, 6, 1),
  (22, .ifCond .eq 23, 3, 0, 45, 0, 0),
  (25, .iload_n 1, 1, 0, 0, 0, 0),
  (26, .ifCond .eq 13, 3, 0, 39, 0, 0),
  (29, .aload_n 0, 1, 0, 0, 0, 0),
  (30, .iload_n 3, 1, 0, 0, 0, 0),
  (31, .iconst 4, 1, 4, 0, 0, 0),
  (32, .invokevirtual 43, 3, 0, 0, 5, 2),
  (35, .iconst 1, 1, 1, 0, 0, 0),
  (36, .if_icmp .ne 9, 3, 0, 45, 0, 0),
  (39, .iconst 1, 1, 1, 0, 0, 0),
  (40, .iload_n 3, 1, 0, 0, 0, 0),
  (41, .ishl, 1, 0, 0, 0, 0),
  (42, .goto 4, 3, 0, 46, 0, 0),
  (45, .iconst 0, 1, 0, 0, 0, 0),
  (46, .ior, 1, 0, 0, 0, 0),
  (47, .istore_n 2, 1, 0, 0, 0, 0),
  (48, .iinc 3 1, 3, 1, 0, 0, 0),
  (51, .goto (-47), 3, 0, 4, 0, 0),
  (54, .iload_n 2, 1, 0, 0, 0, 0),
  (55, .ireturn, 1, 0, 0, 0, 0)]
set_option maxRecDepth 40000 in
theorem zd_16 : ∀ q ∈ zc_16, decode (zbM 16) q.1 = .ok (q.2.1, zlen q.2.2.1 q.2.1) := by decide +kernel
set_option maxRecDepth 40000 in
theorem zo_16 : ∀ q ∈ zc_16, zOK zyM zbM zlM ztM zmci 16 (zyM 16).cls false q :=
  List.forall_mem_cons.mpr ⟨rfl, List.forall_mem_cons.mpr ⟨trivial, List.forall_mem_cons.mpr ⟨rfl, List.forall_mem_cons.mpr ⟨trivial, List.forall_mem_cons.mpr ⟨trivial, List.forall_mem_cons.mpr ⟨trivial, List.forall_mem_cons.mpr ⟨⟨by decide, by decide, zin 593 rfl rfl⟩, List.forall_mem_cons.mpr ⟨rfl, List.forall_mem_cons.mpr ⟨(Or.inl rfl), List.forall_mem_cons.mpr ⟨rfl, List.forall_mem_cons.mpr ⟨trivial, List.forall_mem_cons.mpr ⟨trivial, List.forall_mem_cons.mpr ⟨trivial, List.forall_mem_cons.mpr ⟨⟨by decide, by decide, rfl, zcl_6, zin 677 rfl rfl, zci_6, zcs_6⟩, List.forall_mem_cons.mpr ⟨rfl, List.forall_mem_cons.mpr ⟨trivial, List.forall_mem_cons.mpr ⟨rfl, List.forall_mem_cons.mpr ⟨trivial, List.forall_mem_cons.mpr ⟨trivial, List.forall_mem_cons.mpr ⟨rfl, List.forall_mem_cons.mpr ⟨⟨by decide, by decide, rfl, zcl_5, zin 681 rfl rfl, zci_5, zcs_5⟩, List.forall_mem_cons.mpr ⟨rfl, List.forall_mem_cons.mpr ⟨rfl, List.forall_mem_cons.mpr ⟨rfl, List.forall_mem_cons.mpr ⟨trivial, List.forall_mem_cons.mpr ⟨trivial, List.forall_mem_cons.mpr ⟨rfl, List.forall_mem_cons.mpr ⟨rfl, List.forall_mem_cons.mpr ⟨trivial, List.forall_mem_cons.mpr ⟨trivial, List.forall_mem_cons.mpr ⟨rfl, List.forall_mem_cons.mpr ⟨rfl, List.forall_mem_cons.mpr ⟨trivial, List.forall_mem_cons.mpr ⟨rfl, fun _ h => absurd h List.not_mem_nil⟩⟩⟩⟩⟩⟩⟩⟩⟩⟩⟩⟩⟩⟩⟩⟩⟩⟩⟩⟩⟩⟩⟩⟩⟩⟩⟩⟩⟩⟩⟩⟩⟩⟩
def zc_17 : List zE := [(0, .iconst 0, 1, 0, 0, 0, 0),
  (1, .istore_n 1, 1, 0, 0, 0, 0),
  (2, .iconst 0, 1, 0, 0, 0, 0),
  (3, .istore_n 2, 1, 0, 0, 0, 0),
  (4, .iload_n 2, 1, 0, 0, 0, 0),
  (5, .bipush 8, 2, 8, 0, 0, 0),
  (7, .if_icmp .ge 17, 3, 0, 24, 0, 0),
  (10, .iload_n 1, 1, 0, 0, 0, 0),
  (11, .iload_n 0, 1, 0, 0, 0, 0),
  (12, .iload_n 2, 1, 0, 0, 0, 0),
  (13, .ishr, 1, 0, 0, 0, 0),
  (14, .iconst 1, 1, 1, 0, 0, 0),
  (15, .iand, 1, 0, 0, 0, 0),
  (16, .iadd, 1, 0, 0, 0, 0),
  (17, .istore_n 1, 1, 0, 0, 0, 0),
  (18, .iinc 2 1, 3, 1, 0, 0, 0),
  (21, .goto (-17), 3, 0, 4, 0, 0),
  (24, .iload_n 1, 1, 0, 0, 0, 0),
  (25, .ireturn, 1, 0, 0, 0, 0)]
set_option maxRecDepth 40000 in
theorem zd_17 : ∀ q ∈ zc_17, decode (zbM 17) q.1 = .ok (q.2.1, zlen q.2.2.1 q.2.1) := by decide +kernel
set_option maxRecDepth 40000 in
theorem zo_17 : ∀ q ∈ zc_17, zOK zyM zbM zlM ztM zmci 17 (zyM 17).cls false q :=
  List.forall_mem_cons.mpr ⟨rfl, List.forall_mem_cons.mpr ⟨trivial, List.forall_mem_cons.mpr ⟨rfl, List.forall_mem_cons.mpr ⟨trivial, List.forall_mem_cons.mpr ⟨trivial, List.forall_mem_cons.mpr ⟨rfl, List.forall_mem_cons.mpr ⟨rfl, List.forall_mem_cons.mpr ⟨trivial, List.forall_mem_cons.mpr ⟨trivial, List.forall_mem_cons.mpr ⟨trivial, List.forall_mem_cons.mpr ⟨trivial, List.forall_mem_cons.mpr ⟨rfl, List.forall_mem_cons.mpr ⟨trivial, List.forall_mem_cons.mpr ⟨trivial, List.forall_mem_cons.mpr ⟨trivial, List.forall_mem_cons.mpr ⟨rfl, List.forall_mem_cons.mpr ⟨rfl, List.forall_mem_cons.mpr ⟨trivial, List.forall_mem_cons.mpr ⟨rfl, fun _ h => absurd h List.not_mem_nil⟩⟩⟩⟩⟩⟩⟩⟩⟩⟩⟩⟩⟩⟩⟩⟩⟩⟩⟩
def zc_18 : List zE := [(0, .aload_n 0, 1, 0, 0, 0, 0),
  (1, .iload_n 1, 1, 0, 0, 0, 0),
  (2, .invokevirtual 84, 3, 0, 0, 7, 1),
  (5, .ifCond .eq 5, 3, 0, 10, 0, 0),
  (8, .iconst (-1), 1, (-1), 0, 0, 0),
  (9, .ireturn, 1, 0, 0, 0, 0),
  (10, .aload_n 0, 1, 0, 0, 0, 0),
  (11, .iload_n 1, 1, 0, 0, 0, 0),
  (12, .iconst 4, 1, 4, 0, 0, 0),
  (13, .invokevirtual 43, 3, 0, 0, 5, 2),
  (16, .iconst 1, 1, 1, 0, 0, 0),
  (17, .if_icmp .ne 7, 3, 0, 24, 0, 0),
  (20, .iconst 1, 1, 1, 0, 0, 0),
  (21, .goto 4, 3, 0, 25, 0, 0),
  (24, .iconst 0, 1, 0, 0, 0, 0),
  (25, .iload_n 2, 1, 0, 0, 0, 0),
  (26, .if_icmp .ne 6, 3, 0, 32, 0, 0),
  (29, .bipush (-5), 2, (-5), 0, 0, 0),
  (31, .ireturn, 1, 0, 0, 0, 0),
  (32, .aload_n 0, 1, 0, 0, 0, 0),
  (33, .invokevirtual 77, 3, 0, 0, 2, 0),
  (36, .aload_n 0, 1, 0, 0, 0, 0),
  (37, .iload_n 1, 1, 0, 0, 0, 0),
  (38, .iconst 4, 1, 4, 0, 0, 0),
  (39, .iload_n 2, 1, 0, 0, 0, 0),
  (40, .ifCond .eq 7, 3, 0, 47, 0, 0),
  (43, .iconst 1, 1, 1, 0, 0, 0),
  (44, .goto 4, 3, 0, 48, 0, 0),
  (47, .iconst 0, 1, 0, 0, 0, 0),
  (48, .invokevirtual 80, 3, 0, 0, 3, 3),
  (51, .aload_n 0, 1, 0, 0, 0, 0),
  (52, .iconst 1, 1, 1, 0, 0, 0),
  (53, .invokevirtual 91, 3, 0, 0, 16, 1),
  (56, .invokestatic 94, 3, 0, 1, 17, 1),
  (59, .ireturn, 1, 0, 0, 0, 0)]
set_option maxRecDepth 40000 in
theorem zd_18 : ∀ q ∈ zc_18, decode (zbM 18) q.1 = .ok (q.2.1, zlen q.2.2.1 q.2.1) := by decide +kernel
set_option maxRecDepth 40000 in
theorem zo_18 : ∀ q ∈ zc_18, zOK zyM zbM zlM ztM zmci 18 (zyM 18).cls false q :=
  List.forall_mem_cons.mpr ⟨trivial, List.forall_mem_cons.mpr ⟨trivial, List.forall_mem_cons.mpr ⟨⟨by decide, by decide, rfl, zcl_7, zin 673 rfl rfl, zci_7, zcs_7⟩, List.forall_mem_cons.mpr ⟨rfl, List.forall_mem_cons.mpr ⟨rfl, List.forall_mem_cons.mpr ⟨rfl, List.forall_mem_cons.mpr ⟨trivial, List.forall_mem_cons.mpr ⟨trivial, List.forall_mem_cons.mpr ⟨rfl, List.forall_mem_cons.mpr ⟨⟨by decide, by decide, rfl, zcl_5, zin 681 rfl rfl, zci_5, zcs_5⟩, List.forall_mem_cons.mpr ⟨rfl, List.forall_mem_cons.mpr ⟨rfl, List.forall_mem_cons.mpr ⟨rfl, List.forall_mem_cons.mpr ⟨rfl, List.forall_mem_cons.mpr ⟨rfl, List.forall_mem_cons.mpr ⟨trivial, List.forall_mem_cons.mpr ⟨rfl, List.forall_mem_cons.mpr ⟨rfl, List.forall_mem_cons.mpr ⟨rfl, List.forall_mem_cons.mpr ⟨trivial, List.forall_mem_cons.mpr ⟨⟨by decide, by decide, rfl, zcl_2, zin 661 rfl rfl, zci_2, zcs_2⟩, List.forall_mem_cons.mpr ⟨trivial, List.forall_mem_cons.mpr ⟨trivial, List.forall_mem_cons.mpr ⟨rfl, List.forall_mem_cons.mpr ⟨trivial, List.forall_mem_cons.mpr ⟨rfl, List.forall_mem_cons.mpr ⟨rfl, List.forall_mem_cons.mpr ⟨rfl, List.forall_mem_cons.mpr ⟨rfl, List.forall_mem_cons.mpr ⟨⟨by decide, by decide, rfl, zcl_3, zin 665 rfl rfl, zci_3, zcs_3⟩, List.forall_mem_cons.mpr ⟨trivial, List.forall_mem_cons.mpr ⟨rfl, List.forall_mem_cons.mpr ⟨⟨by decide, by decide, rfl, zcl_16, zin 717 rfl rfl, zci_16, zcs_16⟩, List.forall_mem_cons.mpr ⟨(Or.inr (Or.inr (Or.inr (Or.inl ⟨rfl, by decide, zcl_17, zct_17, zin 721 rfl rfl⟩)))), List.forall_mem_cons.mpr ⟨rfl, fun _ h => absurd h List.not_mem_nil⟩⟩⟩⟩⟩⟩⟩⟩⟩⟩⟩⟩⟩⟩⟩⟩⟩⟩⟩⟩⟩⟩⟩⟩⟩⟩⟩⟩⟩⟩⟩⟩⟩⟩⟩
def zc_19 : List zE := [(0, .iconst 0, 1, 0, 0, 0, 0),
  (1, .istore_n 2, 1, 0, 0, 0, 0),
  (2, .iconst 0, 1, 0, 0, 0, 0),
  (3, .istore_n 3, 1, 0, 0, 0, 0),
  (4, .iload_n 3, 1, 0, 0, 0, 0),
  (5, .aload_n 0, 1, 0, 0, 0, 0),
  (6, .getfield 7, 3, 0, 0, 6, 0),
  (9, .sipush 149, 3, 149, 0, 0, 0),
  (12, .iaload, 1, 0, 0, 0, 0),
  (13, .if_icmp .ge 71, 3, 0, 84, 0, 0),
  (16, .iconst 0, 1, 0, 0, 0, 0),
  (17, .istore 4, 2, 0, 0, 0, 0),
  (19, .iload 4, 2, 0, 0, 0, 0),
  (21, .iload_n 3, 1, 0, 0, 0, 0),
  (22, .if_icmp .ge 56, 3, 0, 78, 0, 0),
  (25, .aload_n 0, 1, 0, 0, 0, 0),
  (26, .iload_n 3, 1, 0, 0, 0, 0),
  (27, .iload 4, 2, 0, 0, 0, 0),
  (29, .invokevirtual 54, 3, 0, 0, 8, 2),
  (32, .istore 5, 2, 0, 0, 0, 0),
  (34, .iload_n 2, 1, 0, 0, 0, 0),
  (35, .iload_n 1, 1, 0, 0, 0, 0),
  (36, .iconst 2, 1, 2, 0, 0, 0),
  (37, .if_icmp .ne 8, 3, 0, 45, 0, 0),
  (40, .iload 5, 2, 0, 0, 0, 0),
  (42, .goto 28, 3, 0, 70, 0, 0),
  (45, .aload_n 0, 1, 0, 0, 0, 0),
  (46, .iload_n 3, 1, 0, 0, 0, 0),
  (47, .iload 4, 2, 0, 0, 0, 0),
  (49, .invokevirtual 64, 3, 0, 0, 10, 2),
  (52, .ifCond .ne 7, 3, 0, 59, 0, 0),
  (55, .iconst 0, 1, 0, 0, 0, 0),
  (56, .goto 14, 3, 0, 70, 0, 0),
  (59, .iload_n 1, 1, 0, 0, 0, 0),
  (60, .iconst 1, 1, 1, 0, 0, 0),
  (61, .if_icmp .ne 8, 3, 0, 69, 0, 0),
  (64, .iload 5, 2, 0, 0, 0, 0),
  (66, .goto 4, 3, 0, 70, 0, 0),
  (69, .iconst 1, 1, 1, 0, 0, 0),
  (70, .iadd, 1, 0, 0, 0, 0),
  (71, .istore_n 2, 1, 0, 0, 0, 0),
  (72, .iinc 4 1, 3, 1, 0, 0, 0),
  (75, .goto (-56), 3, 0, 19, 0, 0),
  (78, .iinc 3 1, 3, 1, 0, 0, 0),
  (81, .goto (-77), 3, 0, 4, 0, 0),
  (84, .iload_n 2, 1, 0, 0, 0, 0),
  (85, .ireturn, 1, 0, 0, 0, 0)]
set_option maxRecDepth 40000 in
theorem zd_19 : ∀ q ∈ zc_19, decode (zbM 19) q.1 = .ok (q.2.1, zlen q.2.2.1 q.2.1) := by decide +kernel
set_option maxRecDepth 40000 in
theorem zo_19 : ∀ q ∈ zc_19, zOK zyM zbM zlM ztM zmci 19 (zyM 19).cls false q :=
  List.forall_mem_cons.mpr ⟨rfl, List.forall_mem_cons.mpr ⟨trivial, List.forall_mem_cons.mpr ⟨rfl, List.forall_mem_cons.mpr ⟨trivial, List.forall_mem_cons.mpr ⟨trivial, List.forall_mem_cons.mpr ⟨trivial, List.forall_mem_cons.mpr ⟨⟨by decide, by decide, zin 593 rfl rfl⟩, List.forall_mem_cons.mpr ⟨rfl, List.forall_mem_cons.mpr ⟨(Or.inl rfl), List.forall_mem_cons.mpr ⟨rfl, List.forall_mem_cons.mpr ⟨rfl, List.forall_mem_cons.mpr ⟨trivial, List.forall_mem_cons.mpr ⟨trivial, List.forall_mem_cons.mpr ⟨trivial, List.forall_mem_cons.mpr ⟨rfl, List.forall_mem_cons.mpr ⟨trivial, List.forall_mem_cons.mpr ⟨trivial, List.forall_mem_cons.mpr ⟨trivial, List.forall_mem_cons.mpr ⟨⟨by decide, by decide, rfl, zcl_8, zin 701 rfl rfl, zci_8, zcs_8⟩, List.forall_mem_cons.mpr ⟨trivial, List.forall_mem_cons.mpr ⟨trivial, List.forall_mem_cons.mpr ⟨trivial, List.forall_mem_cons.mpr ⟨rfl, List.forall_mem_cons.mpr ⟨rfl, List.forall_mem_cons.mpr ⟨trivial, List.forall_mem_cons.mpr ⟨rfl, List.forall_mem_cons.mpr ⟨trivial, List.forall_mem_cons.mpr ⟨trivial, List.forall_mem_cons.mpr ⟨trivial, List.forall_mem_cons.mpr ⟨⟨by decide, by decide, rfl, zcl_10, zin 697 rfl rfl, zci_10, zcs_10⟩, List.forall_mem_cons.mpr ⟨rfl, List.forall_mem_cons.mpr ⟨rfl, List.forall_mem_cons.mpr ⟨rfl, List.forall_mem_cons.mpr ⟨trivial, List.forall_mem_cons.mpr ⟨rfl, List.forall_mem_cons.mpr ⟨rfl, List.forall_mem_cons.mpr ⟨trivial, List.forall_mem_cons.mpr ⟨rfl, List.forall_mem_cons.mpr ⟨rfl, List.forall_mem_cons.mpr ⟨trivial, List.forall_mem_cons.mpr ⟨trivial, List.forall_mem_cons.mpr ⟨rfl, List.forall_mem_cons.mpr ⟨rfl, List.forall_mem_cons.mpr ⟨rfl, List.forall_mem_cons.mpr ⟨rfl, List.forall_mem_cons.mpr ⟨trivial, List.forall_mem_cons.mpr ⟨rfl, fun _ h => absurd h List.not_mem_nil⟩⟩⟩⟩⟩⟩⟩⟩⟩⟩⟩⟩⟩⟩⟩⟩⟩⟩⟩⟩⟩⟩⟩⟩⟩⟩⟩⟩⟩⟩⟩⟩⟩⟩⟩⟩⟩⟩⟩⟩⟩⟩⟩⟩⟩⟩⟩
def zc_20 : List zE := [(0, .iload_n 1, 1, 0, 0, 0, 0),
  (1, .invokestatic 74, 3, 0, 1, 1, 1),
  (4, .ifCond .eq 10, 3, 0, 14, 0, 0),
  (7, .iload_n 2, 1, 0, 0, 0, 0),
  (8, .invokestatic 74, 3, 0, 1, 1, 1),
  (11, .ifCond .ne 6, 3, 0, 17, 0, 0),
  (14, .bipush (-2), 2, (-2), 0, 0, 0),
  (16, .ireturn, 1, 0, 0, 0, 0),
  (17, .aload_n 0, 1, 0, 0, 0, 0),
  (18, .iload_n 1, 1, 0, 0, 0, 0),
  (19, .iload_n 2, 1, 0, 0, 0, 0),
  (20, .invokevirtual 60, 3, 0, 0, 9, 2),
  (23, .iload_n 3, 1, 0, 0, 0, 0),
  (24, .if_icmp .ne 6, 3, 0, 30, 0, 0),
  (27, .bipush (-5), 2, (-5), 0, 0, 0),
  (29, .ireturn, 1, 0, 0, 0, 0),
  (30, .aload_n 0, 1, 0, 0, 0, 0),
  (31, .invokevirtual 77, 3, 0, 0, 2, 0),
  (34, .aload_n 0, 1, 0, 0, 0, 0),
  (35, .getfield 7, 3, 0, 0, 6, 0),
  (38, .sipush 133, 3, 133, 0, 0, 0),
  (41, .iconst 4, 1, 4, 0, 0, 0),
  (42, .iload_n 1, 1, 0, 0, 0, 0),
  (43, .imul, 1, 0, 0, 0, 0),
  (44, .iadd, 1, 0, 0, 0, 0),
  (45, .iload_n 2, 1, 0, 0, 0, 0),
  (46, .iadd, 1, 0, 0, 0, 0),
  (47, .iload_n 3, 1, 0, 0, 0, 0),
  (48, .ifCond .eq 7, 3, 0, 55, 0, 0),
  (51, .iconst 1, 1, 1, 0, 0, 0),
  (52, .goto 4, 3, 0, 56, 0, 0),
  (55, .iconst 0, 1, 0, 0, 0, 0),
  (56, .iastore, 1, 0, 0, 0, 0),
  (57, .aload_n 0, 1, 0, 0, 0, 0),
  (58, .getfield 7, 3, 0, 0, 6, 0),
  (61, .sipush 133, 3, 133, 0, 0, 0),
  (64, .iconst 4, 1, 4, 0, 0, 0),
  (65, .iload_n 2, 1, 0, 0, 0, 0),
  (66, .imul, 1, 0, 0, 0, 0),
  (67, .iadd, 1, 0, 0, 0, 0),
  (68, .iload_n 1, 1, 0, 0, 0, 0),
  (69, .iadd, 1, 0, 0, 0, 0),
  (70, .iload_n 3, 1, 0, 0, 0, 0),
  (71, .ifCond .eq 7, 3, 0, 78, 0, 0),
  (74, .iconst 1, 1, 1, 0, 0, 0),
  (75, .goto 4, 3, 0, 79, 0, 0),
  (78, .iconst 0, 1, 0, 0, 0, 0),
  (79, .iastore, 1, 0, 0, 0, 0),
  (80, .aload_n 0, 1, 0, 0, 0, 0),
  (81, .iconst 0, 1, 0, 0, 0, 0),
  (82, .invokevirtual 97, 3, 0, 0, 19, 1),
  (85, .ireturn, 1, 0, 0, 0, 0)]
set_option maxRecDepth 40000 in
theorem zd_20 : ∀ q ∈ zc_20, decode (zbM 20) q.1 = .ok (q.2.1, zlen q.2.2.1 q.2.1) := by decide +kernel
set_option maxRecDepth 40000 in
theorem zo_20 : ∀ q ∈ zc_20, zOK zyM zbM zlM ztM zmci 20 (zyM 20).cls false q :=
  List.forall_mem_cons.mpr ⟨trivial, List.forall_mem_cons.mpr ⟨(Or.inr (Or.inr (Or.inr (Or.inl ⟨rfl, by decide, zcl_1, zct_1, zin 655 rfl rfl⟩)))), List.forall_mem_cons.mpr ⟨rfl, List.forall_mem_cons.mpr ⟨trivial, List.forall_mem_cons.mpr ⟨(Or.inr (Or.inr (Or.inr (Or.inl ⟨rfl, by decide, zcl_1, zct_1, zin 655 rfl rfl⟩)))), List.forall_mem_cons.mpr ⟨rfl, List.forall_mem_cons.mpr ⟨rfl, List.forall_mem_cons.mpr ⟨rfl, List.forall_mem_cons.mpr ⟨trivial, List.forall_mem_cons.mpr ⟨trivial, List.forall_mem_cons.mpr ⟨trivial, List.forall_mem_cons.mpr ⟨⟨by decide, by decide, rfl, zcl_9, zin 705 rfl rfl, zci_9, zcs_9⟩, List.forall_mem_cons.mpr ⟨trivial, List.forall_mem_cons.mpr ⟨rfl, List.forall_mem_cons.mpr ⟨rfl, List.forall_mem_cons.mpr ⟨rfl, List.forall_mem_cons.mpr ⟨trivial, List.forall_mem_cons.mpr ⟨⟨by decide, by decide, rfl, zcl_2, zin 661 rfl rfl, zci_2, zcs_2⟩, List.forall_mem_cons.mpr ⟨trivial, List.forall_mem_cons.mpr ⟨⟨by decide, by decide, zin 593 rfl rfl⟩, List.forall_mem_cons.mpr ⟨rfl, List.forall_mem_cons.mpr ⟨rfl, List.forall_mem_cons.mpr ⟨trivial, List.forall_mem_cons.mpr ⟨trivial, List.forall_mem_cons.mpr ⟨trivial, List.forall_mem_cons.mpr ⟨trivial, List.forall_mem_cons.mpr ⟨trivial, List.forall_mem_cons.mpr ⟨trivial, List.forall_mem_cons.mpr ⟨rfl, List.forall_mem_cons.mpr ⟨rfl, List.forall_mem_cons.mpr ⟨rfl, List.forall_mem_cons.mpr ⟨rfl, List.forall_mem_cons.mpr ⟨trivial, List.forall_mem_cons.mpr ⟨trivial, List.forall_mem_cons.mpr ⟨⟨by decide, by decide, zin 593 rfl rfl⟩, List.forall_mem_cons.mpr ⟨rfl, List.forall_mem_cons.mpr ⟨rfl, List.forall_mem_cons.mpr ⟨trivial, List.forall_mem_cons.mpr ⟨trivial, List.forall_mem_cons.mpr ⟨trivial, List.forall_mem_cons.mpr ⟨trivial, List.forall_mem_cons.mpr ⟨trivial, List.forall_mem_cons.mpr ⟨trivial, List.forall_mem_cons.mpr ⟨rfl, List.forall_mem_cons.mpr ⟨rfl, List.forall_mem_cons.mpr ⟨rfl, List.forall_mem_cons.mpr ⟨rfl, List.forall_mem_cons.mpr ⟨trivial, List.forall_mem_cons.mpr ⟨trivial, List.forall_mem_cons.mpr ⟨rfl, List.forall_mem_cons.mpr ⟨⟨by decide, by decide, rfl, zcl_19, zin 728 rfl rfl, zci_19, zcs_19⟩, List.forall_mem_cons.mpr ⟨rfl, fun _ h => absurd h List.not_mem_nil⟩⟩⟩⟩⟩⟩⟩⟩⟩⟩⟩⟩⟩⟩⟩⟩⟩⟩⟩⟩⟩⟩⟩⟩⟩⟩⟩⟩⟩⟩⟩⟩⟩⟩⟩⟩⟩⟩⟩⟩⟩⟩⟩⟩⟩⟩⟩⟩⟩⟩⟩⟩
def zc_21 : List zE := [(0, .iload_n 0, 1, 0, 0, 0, 0),
  (1, .iload_n 1, 1, 0, 0, 0, 0),
  (2, .if_icmp .ge 12, 3, 0, 14, 0, 0),
  (5, .bipush 10, 2, 10, 0, 0, 0),
  (7, .iload_n 0, 1, 0, 0, 0, 0),
  (8, .imul, 1, 0, 0, 0, 0),
  (9, .iload_n 1, 1, 0, 0, 0, 0),
  (10, .iadd, 1, 0, 0, 0, 0),
  (11, .goto 9, 3, 0, 20, 0, 0),
  (14, .bipush 10, 2, 10, 0, 0, 0),
  (16, .iload_n 1, 1, 0, 0, 0, 0),
  (17, .imul, 1, 0, 0, 0, 0),
  (18, .iload_n 0, 1, 0, 0, 0, 0),
  (19, .iadd, 1, 0, 0, 0, 0),
  (20, .ireturn, 1, 0, 0, 0, 0)]
set_option maxRecDepth 40000 in
theorem zd_21 : ∀ q ∈ zc_21, decode (zbM 21) q.1 = .ok (q.2.1, zlen q.2.2.1 q.2.1) := by decide +kernel
set_option maxRecDepth 40000 in
theorem zo_21 : ∀ q ∈ zc_21, zOK zyM zbM zlM ztM zmci 21 (zyM 21).cls false q :=
  List.forall_mem_cons.mpr ⟨trivial, List.forall_mem_cons.mpr ⟨trivial, List.forall_mem_cons.mpr ⟨rfl, List.forall_mem_cons.mpr ⟨rfl, List.forall_mem_cons.mpr ⟨trivial, List.forall_mem_cons.mpr ⟨trivial, List.forall_mem_cons.mpr ⟨trivial, List.forall_mem_cons.mpr ⟨trivial, List.forall_mem_cons.mpr ⟨rfl, List.forall_mem_cons.mpr ⟨rfl, List.forall_mem_cons.mpr ⟨trivial, List.forall_mem_cons.mpr ⟨trivial, List.forall_mem_cons.mpr ⟨trivial, List.forall_mem_cons.mpr ⟨trivial, List.forall_mem_cons.mpr ⟨rfl, fun _ h => absurd h List.not_mem_nil⟩⟩⟩⟩⟩⟩⟩⟩⟩⟩⟩⟩⟩⟩⟩
def zc_22 : List zE := [(0, .aload_n 0, 1, 0, 0, 0, 0),
  (1, .iload_n 1, 1, 0, 0, 0, 0),
  (2, .iload_n 2, 1, 0, 0, 0, 0),
  (3, .invokevirtual 54, 3, 0, 0, 8, 2),
  (6, .istore 4, 2, 0, 0, 0, 0),
  (8, .aload_n 0, 1, 0, 0, 0, 0),
  (9, .getfield 7, 3, 0, 0, 6, 0),
  (12, .bipush 40, 2, 40, 0, 0, 0),
  (14, .bipush 8, 2, 8, 0, 0, 0),
  (16, .iload_n 1, 1, 0, 0, 0, 0),
  (17, .imul, 1, 0, 0, 0, 0),
  (18, .iadd, 1, 0, 0, 0, 0),
  (19, .iload_n 2, 1, 0, 0, 0, 0),
  (20, .iadd, 1, 0, 0, 0, 0),
  (21, .iload_n 3, 1, 0, 0, 0, 0),
  (22, .iastore, 1, 0, 0, 0, 0),
  (23, .aload_n 0, 1, 0, 0, 0, 0),
  (24, .getfield 7, 3, 0, 0, 6, 0),
  (27, .bipush 40, 2, 40, 0, 0, 0),
  (29, .bipush 8, 2, 8, 0, 0, 0),
  (31, .iload_n 2, 1, 0, 0, 0, 0),
  (32, .imul, 1, 0, 0, 0, 0),
  (33, .iadd, 1, 0, 0, 0, 0),
  (34, .iload_n 1, 1, 0, 0, 0, 0),
  (35, .iadd, 1, 0, 0, 0, 0),
  (36, .iload_n 3, 1, 0, 0, 0, 0),
  (37, .iastore, 1, 0, 0, 0, 0),
  (38, .iload 4, 2, 0, 0, 0, 0),
  (40, .ifCond .ne 43, 3, 0, 83, 0, 0),
  (43, .iload_n 3, 1, 0, 0, 0, 0),
  (44, .ifCond .le 39, 3, 0, 83, 0, 0),
  (47, .aload_n 0, 1, 0, 0, 0, 0),
  (48, .getfield 7, 3, 0, 0, 6, 0),
  (51, .bipush 104, 2, 104, 0, 0, 0),
  (53, .aload_n 0, 1, 0, 0, 0, 0),
  (54, .getfield 7, 3, 0, 0, 6, 0),
  (57, .sipush 132, 3, 132, 0, 0, 0),
  (60, .iaload, 1, 0, 0, 0, 0),
  (61, .iadd, 1, 0, 0, 0, 0),
  (62, .iload_n 1, 1, 0, 0, 0, 0),
  (63, .iload_n 2, 1, 0, 0, 0, 0),
  (64, .invokestatic 57, 3, 0, 1, 21, 2),
  (67, .iastore, 1, 0, 0, 0, 0),
  (68, .aload_n 0, 1, 0, 0, 0, 0),
  (69, .getfield 7, 3, 0, 0, 6, 0),
  (72, .sipush 132, 3, 132, 0, 0, 0),
  (75, .dup2, 1, 0, 0, 0, 0),
  (76, .iaload, 1, 0, 0, 0, 0),
  (77, .iconst 1, 1, 1, 0, 0, 0),
  (78, .iadd, 1, 0, 0, 0, 0),
  (79, .iastore, 1, 0, 0, 0, 0),
  (80, .goto 96, 3, 0, 176, 0, 0),
  (83, .iload 4, 2, 0, 0, 0, 0),
  (85, .ifCond .le 91, 3, 0, 176, 0, 0),
  (88, .iload_n 3, 1, 0, 0, 0, 0),
  (89, .ifCond .ne 87, 3, 0, 176, 0, 0),
  (92, .iconst 0, 1, 0, 0, 0, 0),
  (93, .istore 5, 2, 0, 0, 0, 0),
  (95, .aload_n 0, 1, 0, 0, 0, 0),
  (96, .getfield 7, 3, 0, 0, 6, 0),
  (99, .bipush 104, 2, 104, 0, 0, 0),
  (101, .iload 5, 2, 0, 0, 0, 0),
  (103, .iadd, 1, 0, 0, 0, 0),
  (104, .iaload, 1, 0, 0, 0, 0),
  (105, .iload_n 1, 1, 0, 0, 0, 0),
  (106, .iload_n 2, 1, 0, 0, 0, 0),
  (107, .invokestatic 57, 3, 0, 1, 21, 2),
  (110, .if_icmp .eq 9, 3, 0, 119, 0, 0),
  (113, .iinc 5 1, 3, 1, 0, 0, 0),
  (116, .goto (-21), 3, 0, 95, 0, 0),
  (119, .aload_n 0, 1, 0, 0, 0, 0),
  (120, .getfield 7, 3, 0, 0, 6, 0),
  (123, .sipush 132, 3, 132, 0, 0, 0),
  (126, .dup2, 1, 0, 0, 0, 0),
  (127, .iaload, 1, 0, 0, 0, 0),
  (128, .iconst 1, 1, 1, 0, 0, 0),
  (129, .isub, 1, 0, 0, 0, 0),
  (130, .iastore, 1, 0, 0, 0, 0),
  (131, .iload 5, 2, 0, 0, 0, 0),
  (133, .istore 6, 2, 0, 0, 0, 0),
  (135, .iload 6, 2, 0, 0, 0, 0),
  (137, .aload_n 0, 1, 0, 0, 0, 0),
  (138, .getfield 7, 3, 0, 0, 6, 0),
  (141, .sipush 132, 3, 132, 0, 0, 0),
  (144, .iaload, 1, 0, 0, 0, 0),
  (145, .if_icmp .ge 31, 3, 0, 176, 0, 0),
  (148, .aload_n 0, 1, 0, 0, 0, 0),
  (149, .getfield 7, 3, 0, 0, 6, 0),
  (152, .bipush 104, 2, 104, 0, 0, 0),
  (154, .iload 6, 2, 0, 0, 0, 0),
  (156, .iadd, 1, 0, 0, 0, 0),
  (157, .aload_n 0, 1, 0, 0, 0, 0),
  (158, .getfield 7, 3, 0, 0, 6, 0),
  (161, .bipush 104, 2, 104, 0, 0, 0),
  (163, .iload 6, 2, 0, 0, 0, 0),
  (165, .iadd, 1, 0, 0, 0, 0),
  (166, .iconst 1, 1, 1, 0, 0, 0),
  (167, .iadd, 1, 0, 0, 0, 0),
  (168, .iaload, 1, 0, 0, 0, 0),
  (169, .iastore, 1, 0, 0, 0, 0),
  (170, .iinc 6 1, 3, 1, 0, 0, 0),
  (173, .goto (-38), 3, 0, 135, 0, 0),
  (176, .return_, 1, 0, 0, 0, 0)]
set_option maxRecDepth 40000 in
theorem zd_22 : ∀ q ∈ zc_22, decode (zbM 22) q.1 = .ok (q.2.1, zlen q.2.2.1 q.2.1) := by decide +kernel
set_option maxRecDepth 40000 in
theorem zo_22 : ∀ q ∈ zc_22, zOK zyM zbM zlM ztM zmci 22 (zyM 22).cls false q :=
  List.forall_mem_cons.mpr ⟨trivial, List.forall_mem_cons.mpr ⟨trivial, List.forall_mem_cons.mpr ⟨trivial, List.forall_mem_cons.mpr ⟨⟨by decide, by decide, rfl, zcl_8, zin 701 rfl rfl, zci_8, zcs_8⟩, List.forall_mem_cons.mpr ⟨trivial, List.forall_mem_cons.mpr ⟨trivial, List.forall_mem_cons.mpr ⟨⟨by decide, by decide, zin 593 rfl rfl⟩, List.forall_mem_cons.mpr ⟨rfl, List.forall_mem_cons.mpr ⟨rfl, List.forall_mem_cons.mpr ⟨trivial, List.forall_mem_cons.mpr ⟨trivial, List.forall_mem_cons.mpr ⟨trivial, List.forall_mem_cons.mpr ⟨trivial, List.forall_mem_cons.mpr ⟨trivial, List.forall_mem_cons.mpr ⟨trivial, List.forall_mem_cons.mpr ⟨trivial, List.forall_mem_cons.mpr ⟨trivial, List.forall_mem_cons.mpr ⟨⟨by decide, by decide, zin 593 rfl rfl⟩, List.forall_mem_cons.mpr ⟨rfl, List.forall_mem_cons.mpr ⟨rfl, List.forall_mem_cons.mpr ⟨trivial, List.forall_mem_cons.mpr ⟨trivial, List.forall_mem_cons.mpr ⟨trivial, List.forall_mem_cons.mpr ⟨trivial, List.forall_mem_cons.mpr ⟨trivial, List.forall_mem_cons.mpr ⟨trivial, List.forall_mem_cons.mpr ⟨trivial, List.forall_mem_cons.mpr ⟨trivial, List.forall_mem_cons.mpr ⟨rfl, List.forall_mem_cons.mpr ⟨trivial, List.forall_mem_cons.mpr ⟨rfl, List.forall_mem_cons.mpr ⟨trivial, List.forall_mem_cons.mpr ⟨⟨by decide, by decide, zin 593 rfl rfl⟩, List.forall_mem_cons.mpr ⟨rfl, List.forall_mem_cons.mpr ⟨trivial, List.forall_mem_cons.mpr ⟨⟨by decide, by decide, zin 593 rfl rfl⟩, List.forall_mem_cons.mpr ⟨rfl, List.forall_mem_cons.mpr ⟨(Or.inl rfl), List.forall_mem_cons.mpr ⟨trivial, List.forall_mem_cons.mpr ⟨trivial, List.forall_mem_cons.mpr ⟨trivial, List.forall_mem_cons.mpr ⟨(Or.inr (Or.inr (Or.inr (Or.inl ⟨rfl, by decide, zcl_21, zct_21, zin 740 rfl rfl⟩)))), List.forall_mem_cons.mpr ⟨trivial, List.forall_mem_cons.mpr ⟨trivial, List.forall_mem_cons.mpr ⟨⟨by decide, by decide, zin 593 rfl rfl⟩, List.forall_mem_cons.mpr ⟨rfl, List.forall_mem_cons.mpr ⟨trivial, List.forall_mem_cons.mpr ⟨(Or.inl rfl), List.forall_mem_cons.mpr ⟨rfl, List.forall_mem_cons.mpr ⟨trivial, List.forall_mem_cons.mpr ⟨trivial, List.forall_mem_cons.mpr ⟨rfl, List.forall_mem_cons.mpr ⟨trivial, List.forall_mem_cons.mpr ⟨rfl, List.forall_mem_cons.mpr ⟨trivial, List.forall_mem_cons.mpr ⟨rfl, List.forall_mem_cons.mpr ⟨rfl, List.forall_mem_cons.mpr ⟨trivial, List.forall_mem_cons.mpr ⟨trivial, List.forall_mem_cons.mpr ⟨⟨by decide, by decide, zin 593 rfl rfl⟩, List.forall_mem_cons.mpr ⟨rfl, List.forall_mem_cons.mpr ⟨trivial, List.forall_mem_cons.mpr ⟨trivial, List.forall_mem_cons.mpr ⟨(Or.inl rfl), List.forall_mem_cons.mpr ⟨trivial, List.forall_mem_cons.mpr ⟨trivial, List.forall_mem_cons.mpr ⟨(Or.inr (Or.inr (Or.inr (Or.inl ⟨rfl, by decide, zcl_21, zct_21, zin 740 rfl rfl⟩)))), List.forall_mem_cons.mpr ⟨rfl, List.forall_mem_cons.mpr ⟨rfl, List.forall_mem_cons.mpr ⟨rfl, List.forall_mem_cons.mpr ⟨trivial, List.forall_mem_cons.mpr ⟨⟨by decide, by decide, zin 593 rfl rfl⟩, List.forall_mem_cons.mpr ⟨rfl, List.forall_mem_cons.mpr ⟨trivial, List.forall_mem_cons.mpr ⟨(Or.inl rfl), List.forall_mem_cons.mpr ⟨rfl, List.forall_mem_cons.mpr ⟨trivial, List.forall_mem_cons.mpr ⟨trivial, List.forall_mem_cons.mpr ⟨trivial, List.forall_mem_cons.mpr ⟨trivial, List.forall_mem_cons.mpr ⟨trivial, List.forall_mem_cons.mpr ⟨trivial, List.forall_mem_cons.mpr ⟨⟨by decide, by decide, zin 593 rfl rfl⟩, List.forall_mem_cons.mpr ⟨rfl, List.forall_mem_cons.mpr ⟨(Or.inl rfl), List.forall_mem_cons.mpr ⟨rfl, List.forall_mem_cons.mpr ⟨trivial, List.forall_mem_cons.mpr ⟨⟨by decide, by decide, zin 593 rfl rfl⟩, List.forall_mem_cons.mpr ⟨rfl, List.forall_mem_cons.mpr ⟨trivial, List.forall_mem_cons.mpr ⟨trivial, List.forall_mem_cons.mpr ⟨trivial, List.forall_mem_cons.mpr ⟨⟨by decide, by decide, zin 593 rfl rfl⟩, List.forall_mem_cons.mpr ⟨rfl, List.forall_mem_cons.mpr ⟨trivial, List.forall_mem_cons.mpr ⟨trivial, List.forall_mem_cons.mpr ⟨rfl, List.forall_mem_cons.mpr ⟨trivial, List.forall_mem_cons.mpr ⟨(Or.inl rfl), List.forall_mem_cons.mpr ⟨trivial, List.forall_mem_cons.mpr ⟨rfl, List.forall_mem_cons.mpr ⟨rfl, List.forall_mem_cons.mpr ⟨rfl, fun _ h => absurd h List.not_mem_nil⟩⟩⟩⟩⟩⟩⟩⟩⟩⟩⟩⟩⟩⟩⟩⟩⟩⟩⟩⟩⟩⟩⟩⟩⟩⟩⟩⟩⟩⟩⟩⟩⟩⟩⟩⟩⟩⟩⟩⟩⟩⟩⟩⟩⟩⟩⟩⟩⟩⟩⟩⟩⟩⟩⟩⟩⟩⟩⟩⟩⟩⟩⟩⟩⟩⟩⟩⟩⟩⟩⟩⟩⟩⟩⟩⟩⟩⟩⟩⟩⟩⟩⟩⟩⟩⟩⟩⟩⟩⟩⟩⟩⟩⟩⟩⟩⟩⟩⟩⟩⟩⟩⟩
def zc_23 : List zE := [(0, .aload_n 0, 1, 0, 0, 0, 0),
  (1, .iload_n 1, 1, 0, 0, 0, 0),
  (2, .invokevirtual 84, 3, 0, 0, 7, 1),
  (5, .ifCond .ne 11, 3, 0, 16, 0, 0),
  (8, .aload_n 0, 1, 0, 0, 0, 0),
  (9, .iload_n 2, 1, 0, 0, 0, 0),
  (10, .invokevirtual 84, 3, 0, 0, 7, 1),
  (13, .ifCond .eq 5, 3, 0, 18, 0, 0),
  (16, .iconst (-1), 1, (-1), 0, 0, 0),
  (17, .ireturn, 1, 0, 0, 0, 0),
  (18, .iload_n 1, 1, 0, 0, 0, 0),
  (19, .iload_n 2, 1, 0, 0, 0, 0),
  (20, .if_icmp .eq 13, 3, 0, 33, 0, 0),
  (23, .iload_n 3, 1, 0, 0, 0, 0),
  (24, .iconst 0, 1, 0, 0, 0, 0),
  (25, .bipush 99, 2, 99, 0, 0, 0),
  (27, .invokestatic 39, 3, 0, 1, 0, 3),
  (30, .ifCond .ne 6, 3, 0, 36, 0, 0),
  (33, .bipush (-2), 2, (-2), 0, 0, 0),
  (35, .ireturn, 1, 0, 0, 0, 0),
  (36, .aload_n 0, 1, 0, 0, 0, 0),
  (37, .iload_n 1, 1, 0, 0, 0, 0),
  (38, .iload_n 2, 1, 0, 0, 0, 0),
  (39, .invokevirtual 54, 3, 0, 0, 8, 2),
  (42, .istore 4, 2, 0, 0, 0, 0),
  (44, .iload 4, 2, 0, 0, 0, 0),
  (46, .iload_n 3, 1, 0, 0, 0, 0),
  (47, .if_icmp .ne 6, 3, 0, 53, 0, 0),
  (50, .bipush (-5), 2, (-5), 0, 0, 0),
  (52, .ireturn, 1, 0, 0, 0, 0),
  (53, .aload_n 0, 1, 0, 0, 0, 0),
  (54, .invokevirtual 77, 3, 0, 0, 2, 0),
  (57, .aload_n 0, 1, 0, 0, 0, 0),
  (58, .iload_n 1, 1, 0, 0, 0, 0),
  (59, .iload_n 2, 1, 0, 0, 0, 0),
  (60, .iload_n 3, 1, 0, 0, 0, 0),
  (61, .invokevirtual 100, 3, 0, 0, 22, 3),
  (64, .iload 4, 2, 0, 0, 0, 0),
  (66, .ireturn, 1, 0, 0, 0, 0)]
set_option maxRecDepth 40000 in
theorem zd_23 : ∀ q ∈ zc_23, decode (zbM 23) q.1 = .ok (q.2.1, zlen q.2.2.1 q.2.1) := by decide +kernel
set_option maxRecDepth 40000 in
theorem zo_23 : ∀ q ∈ zc_23, zOK zyM zbM zlM ztM zmci 23 (zyM 23).cls false q :=
  List.forall_mem_cons.mpr ⟨trivial, List.forall_mem_cons.mpr ⟨trivial, List.forall_mem_cons.mpr ⟨⟨by decide, by decide, rfl, zcl_7, zin 673 rfl rfl, zci_7, zcs_7⟩, List.forall_mem_cons.mpr ⟨rfl, List.forall_mem_cons.mpr ⟨trivial, List.forall_mem_cons.mpr ⟨trivial, List.forall_mem_cons.mpr ⟨⟨by decide, by decide, rfl, zcl_7, zin 673 rfl rfl, zci_7, zcs_7⟩, List.forall_mem_cons.mpr ⟨rfl, List.forall_mem_cons.mpr ⟨rfl, List.forall_mem_cons.mpr ⟨rfl, List.forall_mem_cons.mpr ⟨trivial, List.forall_mem_cons.mpr ⟨trivial, List.forall_mem_cons.mpr ⟨rfl, List.forall_mem_cons.mpr ⟨trivial, List.forall_mem_cons.mpr ⟨rfl, List.forall_mem_cons.mpr ⟨rfl, List.forall_mem_cons.mpr ⟨(Or.inr (Or.inr (Or.inr (Or.inl ⟨rfl, by decide, zcl_0, zct_0, zin 658 rfl rfl⟩)))), List.forall_mem_cons.mpr ⟨rfl, List.forall_mem_cons.mpr ⟨rfl, List.forall_mem_cons.mpr ⟨rfl, List.forall_mem_cons.mpr ⟨trivial, List.forall_mem_cons.mpr ⟨trivial, List.forall_mem_cons.mpr ⟨trivial, List.forall_mem_cons.mpr ⟨⟨by decide, by decide, rfl, zcl_8, zin 701 rfl rfl, zci_8, zcs_8⟩, List.forall_mem_cons.mpr ⟨trivial, List.forall_mem_cons.mpr ⟨trivial, List.forall_mem_cons.mpr ⟨trivial, List.forall_mem_cons.mpr ⟨rfl, List.forall_mem_cons.mpr ⟨rfl, List.forall_mem_cons.mpr ⟨rfl, List.forall_mem_cons.mpr ⟨trivial, List.forall_mem_cons.mpr ⟨⟨by decide, by decide, rfl, zcl_2, zin 661 rfl rfl, zci_2, zcs_2⟩, List.forall_mem_cons.mpr ⟨trivial, List.forall_mem_cons.mpr ⟨trivial, List.forall_mem_cons.mpr ⟨trivial, List.forall_mem_cons.mpr ⟨trivial, List.forall_mem_cons.mpr ⟨⟨by decide, by decide, rfl, zcl_22, zin 736 rfl rfl, zci_22, zcs_22⟩, List.forall_mem_cons.mpr ⟨trivial, List.forall_mem_cons.mpr ⟨rfl, fun _ h => absurd h List.not_mem_nil⟩⟩⟩⟩⟩⟩⟩⟩⟩⟩⟩⟩⟩⟩⟩⟩⟩⟩⟩⟩⟩⟩⟩⟩⟩⟩⟩⟩⟩⟩⟩⟩⟩⟩⟩⟩⟩⟩⟩
def zc_24 : List zE := [(0, .aload_n 0, 1, 0, 0, 0, 0),
  (1, .getfield 136, 3, 0, 0, 6, 15),
  (4, .aload_n 0, 1, 0, 0, 0, 0),
  (5, .getfield 133, 3, 0, 0, 6, 13),
  (8, .if_icmp .ge 24, 3, 0, 32, 0, 0),
  (11, .aload_n 0, 1, 0, 0, 0, 0),
  (12, .getfield 35, 3, 0, 0, 6, 14),
  (15, .aload_n 0, 1, 0, 0, 0, 0),
  (16, .getfield 136, 3, 0, 0, 6, 15),
  (19, .caload, 1, 0, 0, 0, 0),
  (20, .iload_n 1, 1, 0, 0, 0, 0),
  (21, .iload_n 2, 1, 0, 0, 0, 0),
  (22, .invokestatic 39, 3, 0, 1, 0, 3),
  (25, .ifCond .eq 7, 3, 0, 32, 0, 0),
  (28, .iconst 1, 1, 1, 0, 0, 0),
  (29, .goto 4, 3, 0, 33, 0, 0),
  (32, .iconst 0, 1, 0, 0, 0, 0),
  (33, .ireturn, 1, 0, 0, 0, 0)]
set_option maxRecDepth 40000 in
theorem zd_24 : ∀ q ∈ zc_24, decode (zbM 24) q.1 = .ok (q.2.1, zlen q.2.2.1 q.2.1) := by decide +kernel
set_option maxRecDepth 40000 in
theorem zo_24 : ∀ q ∈ zc_24, zOK zyM zbM zlM ztM zmci 24 (zyM 24).cls false q :=
  List.forall_mem_cons.mpr ⟨trivial, List.forall_mem_cons.mpr ⟨⟨by decide, by decide, zin 608 rfl rfl⟩, List.forall_mem_cons.mpr ⟨trivial, List.forall_mem_cons.mpr ⟨⟨by decide, by decide, zin 606 rfl rfl⟩, List.forall_mem_cons.mpr ⟨rfl, List.forall_mem_cons.mpr ⟨trivial, List.forall_mem_cons.mpr ⟨⟨by decide, by decide, zin 607 rfl rfl⟩, List.forall_mem_cons.mpr ⟨trivial, List.forall_mem_cons.mpr ⟨⟨by decide, by decide, zin 608 rfl rfl⟩, List.forall_mem_cons.mpr ⟨trivial, List.forall_mem_cons.mpr ⟨trivial, List.forall_mem_cons.mpr ⟨trivial, List.forall_mem_cons.mpr ⟨(Or.inr (Or.inr (Or.inr (Or.inl ⟨rfl, by decide, zcl_0, zct_0, zin 658 rfl rfl⟩)))), List.forall_mem_cons.mpr ⟨rfl, List.forall_mem_cons.mpr ⟨rfl, List.forall_mem_cons.mpr ⟨rfl, List.forall_mem_cons.mpr ⟨rfl, List.forall_mem_cons.mpr ⟨rfl, fun _ h => absurd h List.not_mem_nil⟩⟩⟩⟩⟩⟩⟩⟩⟩⟩⟩⟩⟩⟩⟩⟩⟩⟩
def zc_25 : List zE := [(0, .aload_n 0, 1, 0, 0, 0, 0),
  (1, .iload_n 1, 1, 0, 0, 0, 0),
  (2, .iload_n 1, 1, 0, 0, 0, 0),
  (3, .invokevirtual 139, 3, 0, 0, 24, 2),
  (6, .istore_n 2, 1, 0, 0, 0, 0),
  (7, .aload_n 0, 1, 0, 0, 0, 0),
  (8, .dup, 1, 0, 0, 0, 0),
  (9, .getfield 136, 3, 0, 0, 6, 15),
  (12, .iload_n 2, 1, 0, 0, 0, 0),
  (13, .ifCond .eq 7, 3, 0, 20, 0, 0),
  (16, .iconst 1, 1, 1, 0, 0, 0),
  (17, .goto 4, 3, 0, 21, 0, 0),
  (20, .iconst 0, 1, 0, 0, 0, 0),
  (21, .iadd, 1, 0, 0, 0, 0),
  (22, .putfield 136, 3, 0, 0, 6, 15),
  (25, .iload_n 2, 1, 0, 0, 0, 0),
  (26, .ireturn, 1, 0, 0, 0, 0)]
set_option maxRecDepth 40000 in
theorem zd_25 : ∀ q ∈ zc_25, decode (zbM 25) q.1 = .ok (q.2.1, zlen q.2.2.1 q.2.1) := by decide +kernel
set_option maxRecDepth 40000 in
theorem zo_25 : ∀ q ∈ zc_25, zOK zyM zbM zlM ztM zmci 25 (zyM 25).cls false q :=
  List.forall_mem_cons.mpr ⟨trivial, List.forall_mem_cons.mpr ⟨trivial, List.forall_mem_cons.mpr ⟨trivial, List.forall_mem_cons.mpr ⟨⟨by decide, by decide, rfl, zcl_24, zin 807 rfl rfl, zci_24, zcs_24⟩, List.forall_mem_cons.mpr ⟨trivial, List.forall_mem_cons.mpr ⟨trivial, List.forall_mem_cons.mpr ⟨trivial, List.forall_mem_cons.mpr ⟨⟨by decide, by decide, zin 608 rfl rfl⟩, List.forall_mem_cons.mpr ⟨trivial, List.forall_mem_cons.mpr ⟨rfl, List.forall_mem_cons.mpr ⟨rfl, List.forall_mem_cons.mpr ⟨rfl, List.forall_mem_cons.mpr ⟨rfl, List.forall_mem_cons.mpr ⟨trivial, List.forall_mem_cons.mpr ⟨⟨by decide, by decide, zin 608 rfl rfl, rfl⟩, List.forall_mem_cons.mpr ⟨trivial, List.forall_mem_cons.mpr ⟨rfl, fun _ h => absurd h List.not_mem_nil⟩⟩⟩⟩⟩⟩⟩⟩⟩⟩⟩⟩⟩⟩⟩⟩⟩
def zc_26 : List zE := [(0, .aload_n 0, 1, 0, 0, 0, 0),
  (1, .bipush 48, 2, 48, 0, 0, 0),
  (3, .bipush 57, 2, 57, 0, 0, 0),
  (5, .invokevirtual 139, 3, 0, 0, 24, 2),
  (8, .ifCond .ne 5, 3, 0, 13, 0, 0),
  (11, .iconst 0, 1, 0, 0, 0, 0),
  (12, .ireturn, 1, 0, 0, 0, 0),
  (13, .aload_n 0, 1, 0, 0, 0, 0),
  (14, .aload_n 0, 1, 0, 0, 0, 0),
  (15, .getfield 35, 3, 0, 0, 6, 14),
  (18, .aload_n 0, 1, 0, 0, 0, 0),
  (19, .getfield 136, 3, 0, 0, 6, 15),
  (22, .caload, 1, 0, 0, 0, 0),
  (23, .bipush 48, 2, 48, 0, 0, 0),
  (25, .isub, 1, 0, 0, 0, 0),
  (26, .putfield 142, 3, 0, 0, 6, 16),
  (29, .aload_n 0, 1, 0, 0, 0, 0),
  (30, .dup, 1, 0, 0, 0, 0),
  (31, .getfield 136, 3, 0, 0, 6, 15),
  (34, .iconst 1, 1, 1, 0, 0, 0),
  (35, .iadd, 1, 0, 0, 0, 0),
  (36, .putfield 136, 3, 0, 0, 6, 15),
  (39, .aload_n 0, 1, 0, 0, 0, 0),
  (40, .bipush 45, 2, 45, 0, 0, 0),
  (42, .invokevirtual 145, 3, 0, 0, 25, 1),
  (45, .ifCond .eq 14, 3, 0, 59, 0, 0),
  (48, .aload_n 0, 1, 0, 0, 0, 0),
  (49, .bipush 48, 2, 48, 0, 0, 0),
  (51, .bipush 57, 2, 57, 0, 0, 0),
  (53, .invokevirtual 139, 3, 0, 0, 24, 2),
  (56, .ifCond .ne 5, 3, 0, 61, 0, 0),
  (59, .iconst 0, 1, 0, 0, 0, 0),
  (60, .ireturn, 1, 0, 0, 0, 0),
  (61, .aload_n 0, 1, 0, 0, 0, 0),
  (62, .aload_n 0, 1, 0, 0, 0, 0),
  (63, .getfield 35, 3, 0, 0, 6, 14),
  (66, .aload_n 0, 1, 0, 0, 0, 0),
  (67, .getfield 136, 3, 0, 0, 6, 15),
  (70, .caload, 1, 0, 0, 0, 0),
  (71, .bipush 48, 2, 48, 0, 0, 0),
  (73, .isub, 1, 0, 0, 0, 0),
  (74, .putfield 148, 3, 0, 0, 6, 17),
  (77, .aload_n 0, 1, 0, 0, 0, 0),
  (78, .dup, 1, 0, 0, 0, 0),
  (79, .getfield 136, 3, 0, 0, 6, 15),
  (82, .iconst 1, 1, 1, 0, 0, 0),
  (83, .iadd, 1, 0, 0, 0, 0),
  (84, .putfield 136, 3, 0, 0, 6, 15),
  (87, .aload_n 0, 1, 0, 0, 0, 0),
  (88, .iconst 1, 1, 1, 0, 0, 0),
  (89, .putfield 151, 3, 0, 0, 6, 18),
  (92, .aload_n 0, 1, 0, 0, 0, 0),
  (93, .bipush 58, 2, 58, 0, 0, 0),
  (95, .invokevirtual 145, 3, 0, 0, 25, 1),
  (98, .ifCond .eq 87, 3, 0, 185, 0, 0),
  (101, .aload_n 0, 1, 0, 0, 0, 0),
  (102, .bipush 49, 2, 49, 0, 0, 0),
  (104, .bipush 57, 2, 57, 0, 0, 0),
  (106, .invokevirtual 139, 3, 0, 0, 24, 2),
  (109, .ifCond .ne 5, 3, 0, 114, 0, 0),
  (112, .iconst 0, 1, 0, 0, 0, 0),
  (113, .ireturn, 1, 0, 0, 0, 0),
  (114, .aload_n 0, 1, 0, 0, 0, 0),
  (115, .aload_n 0, 1, 0, 0, 0, 0),
  (116, .getfield 35, 3, 0, 0, 6, 14),
  (119, .aload_n 0, 1, 0, 0, 0, 0),
  (120, .getfield 136, 3, 0, 0, 6, 15),
  (123, .caload, 1, 0, 0, 0, 0),
  (124, .bipush 48, 2, 48, 0, 0, 0),
  (126, .isub, 1, 0, 0, 0, 0),
  (127, .putfield 151, 3, 0, 0, 6, 18),
  (130, .aload_n 0, 1, 0, 0, 0, 0),
  (131, .dup, 1, 0, 0, 0, 0),
  (132, .getfield 136, 3, 0, 0, 6, 15),
  (135, .iconst 1, 1, 1, 0, 0, 0),
  (136, .iadd, 1, 0, 0, 0, 0),
  (137, .putfield 136, 3, 0, 0, 6, 15),
  (140, .aload_n 0, 1, 0, 0, 0, 0),
  (141, .bipush 48, 2, 48, 0, 0, 0),
  (143, .bipush 57, 2, 57, 0, 0, 0),
  (145, .invokevirtual 139, 3, 0, 0, 24, 2),
  (148, .ifCond .eq 37, 3, 0, 185, 0, 0),
  (151, .aload_n 0, 1, 0, 0, 0, 0),
  (152, .bipush 10, 2, 10, 0, 0, 0),
  (154, .aload_n 0, 1, 0, 0, 0, 0),
  (155, .getfield 151, 3, 0, 0, 6, 18),
  (158, .imul, 1, 0, 0, 0, 0),
  (159, .aload_n 0, 1, 0, 0, 0, 0),
  (160, .getfield 35, 3, 0, 0, 6, 14),
  (163, .aload_n 0, 1, 0, 0, 0, 0),
  (164, .getfield 136, 3, 0, 0, 6, 15),
  (167, .caload, 1, 0, 0, 0, 0),
  (168, .iadd, 1, 0, 0, 0, 0),
  (169, .bipush 48, 2, 48, 0, 0, 0),
  (171, .isub, 1, 0, 0, 0, 0),
  (172, .putfield 151, 3, 0, 0, 6, 18),
  (175, .aload_n 0, 1, 0, 0, 0, 0),
  (176, .dup, 1, 0, 0, 0, 0),
  (177, .getfield 136, 3, 0, 0, 6, 15),
  (180, .iconst 1, 1, 1, 0, 0, 0),
  (181, .iadd, 1, 0, 0, 0, 0),
  (182, .putfield 136, 3, 0, 0, 6, 15),
  (185, .iconst 1, 1, 1, 0, 0, 0),
  (186, .ireturn, 1, 0, 0, 0, 0)]
set_option maxRecDepth 40000 in
theorem zd_26 : ∀ q ∈ zc_26, decode (zbM 26) q.1 = .ok (q.2.1, zlen q.2.2.1 q.2.1) := by decide +kernel
set_option maxRecDepth 40000 in
theorem zo_26 : ∀ q ∈ zc_26, zOK zyM zbM zlM ztM zmci 26 (zyM 26).cls false q :=
  List.forall_mem_cons.mpr ⟨trivial, List.forall_mem_cons.mpr ⟨rfl, List.forall_mem_cons.mpr ⟨rfl, List.forall_mem_cons.mpr ⟨⟨by decide, by decide, rfl, zcl_24, zin 807 rfl rfl, zci_24, zcs_24⟩, List.forall_mem_cons.mpr ⟨rfl, List.forall_mem_cons.mpr ⟨rfl, List.forall_mem_cons.mpr ⟨rfl, List.forall_mem_cons.mpr ⟨trivial, List.forall_mem_cons.mpr ⟨trivial, List.forall_mem_cons.mpr ⟨⟨by decide, by decide, zin 607 rfl rfl⟩, List.forall_mem_cons.mpr ⟨trivial, List.forall_mem_cons.mpr ⟨⟨by decide, by decide, zin 608 rfl rfl⟩, List.forall_mem_cons.mpr ⟨trivial, List.forall_mem_cons.mpr ⟨rfl, List.forall_mem_cons.mpr ⟨trivial, List.forall_mem_cons.mpr ⟨⟨by decide, by decide, zin 609 rfl rfl, rfl⟩, List.forall_mem_cons.mpr ⟨trivial, List.forall_mem_cons.mpr ⟨trivial, List.forall_mem_cons.mpr ⟨⟨by decide, by decide, zin 608 rfl rfl⟩, List.forall_mem_cons.mpr ⟨rfl, List.forall_mem_cons.mpr ⟨trivial, List.forall_mem_cons.mpr ⟨⟨by decide, by decide, zin 608 rfl rfl, rfl⟩, List.forall_mem_cons.mpr ⟨trivial, List.forall_mem_cons.mpr ⟨rfl, List.forall_mem_cons.mpr ⟨⟨by decide, by decide, rfl, zcl_25, zin 811 rfl rfl, zci_25, zcs_25⟩, List.forall_mem_cons.mpr ⟨rfl, List.forall_mem_cons.mpr ⟨trivial, List.forall_mem_cons.mpr ⟨rfl, List.forall_mem_cons.mpr ⟨rfl, List.forall_mem_cons.mpr ⟨⟨by decide, by decide, rfl, zcl_24, zin 807 rfl rfl, zci_24, zcs_24⟩, List.forall_mem_cons.mpr ⟨rfl, List.forall_mem_cons.mpr ⟨rfl, List.forall_mem_cons.mpr ⟨rfl, List.forall_mem_cons.mpr ⟨trivial, List.forall_mem_cons.mpr ⟨trivial, List.forall_mem_cons.mpr ⟨⟨by decide, by decide, zin 607 rfl rfl⟩, List.forall_mem_cons.mpr ⟨trivial, List.forall_mem_cons.mpr ⟨⟨by decide, by decide, zin 608 rfl rfl⟩, List.forall_mem_cons.mpr ⟨trivial, List.forall_mem_cons.mpr ⟨rfl, List.forall_mem_cons.mpr ⟨trivial, List.forall_mem_cons.mpr ⟨⟨by decide, by decide, zin 610 rfl rfl, rfl⟩, List.forall_mem_cons.mpr ⟨trivial, List.forall_mem_cons.mpr ⟨trivial, List.forall_mem_cons.mpr ⟨⟨by decide, by decide, zin 608 rfl rfl⟩, List.forall_mem_cons.mpr ⟨rfl, List.forall_mem_cons.mpr ⟨trivial, List.forall_mem_cons.mpr ⟨⟨by decide, by decide, zin 608 rfl rfl, rfl⟩, List.forall_mem_cons.mpr ⟨trivial, List.forall_mem_cons.mpr ⟨rfl, List.forall_mem_cons.mpr ⟨⟨by decide, by decide, zin 611 rfl rfl, rfl⟩, List.forall_mem_cons.mpr ⟨trivial, List.forall_mem_cons.mpr ⟨rfl, List.forall_mem_cons.mpr ⟨⟨by decide, by decide, rfl, zcl_25, zin 811 rfl rfl, zci_25, zcs_25⟩, List.forall_mem_cons.mpr ⟨rfl, List.forall_mem_cons.mpr ⟨trivial, List.forall_mem_cons.mpr ⟨rfl, List.forall_mem_cons.mpr ⟨rfl, List.forall_mem_cons.mpr ⟨⟨by decide, by decide, rfl, zcl_24, zin 807 rfl rfl, zci_24, zcs_24⟩, List.forall_mem_cons.mpr ⟨rfl, List.forall_mem_cons.mpr ⟨rfl, List.forall_mem_cons.mpr ⟨rfl, List.forall_mem_cons.mpr ⟨trivial, List.forall_mem_cons.mpr ⟨trivial, List.forall_mem_cons.mpr ⟨⟨by decide, by decide, zin 607 rfl rfl⟩, List.forall_mem_cons.mpr ⟨trivial, List.forall_mem_cons.mpr ⟨⟨by decide, by decide, zin 608 rfl rfl⟩, List.forall_mem_cons.mpr ⟨trivial, List.forall_mem_cons.mpr ⟨rfl, List.forall_mem_cons.mpr ⟨trivial, List.forall_mem_cons.mpr ⟨⟨by decide, by decide, zin 611 rfl rfl, rfl⟩, List.forall_mem_cons.mpr ⟨trivial, List.forall_mem_cons.mpr ⟨trivial, List.forall_mem_cons.mpr ⟨⟨by decide, by decide, zin 608 rfl rfl⟩, List.forall_mem_cons.mpr ⟨rfl, List.forall_mem_cons.mpr ⟨trivial, List.forall_mem_cons.mpr ⟨⟨by decide, by decide, zin 608 rfl rfl, rfl⟩, List.forall_mem_cons.mpr ⟨trivial, List.forall_mem_cons.mpr ⟨rfl, List.forall_mem_cons.mpr ⟨rfl, List.forall_mem_cons.mpr ⟨⟨by decide, by decide, rfl, zcl_24, zin 807 rfl rfl, zci_24, zcs_24⟩, List.forall_mem_cons.mpr ⟨rfl, List.forall_mem_cons.mpr ⟨trivial, List.forall_mem_cons.mpr ⟨rfl, List.forall_mem_cons.mpr ⟨trivial, List.forall_mem_cons.mpr ⟨⟨by decide, by decide, zin 611 rfl rfl⟩, List.forall_mem_cons.mpr ⟨trivial, List.forall_mem_cons.mpr ⟨trivial, List.forall_mem_cons.mpr ⟨⟨by decide, by decide, zin 607 rfl rfl⟩, List.forall_mem_cons.mpr ⟨trivial, List.forall_mem_cons.mpr ⟨⟨by decide, by decide, zin 608 rfl rfl⟩, List.forall_mem_cons.mpr ⟨trivial, List.forall_mem_cons.mpr ⟨trivial, List.forall_mem_cons.mpr ⟨rfl, List.forall_mem_cons.mpr ⟨trivial, List.forall_mem_cons.mpr ⟨⟨by decide, by decide, zin 611 rfl rfl, rfl⟩, List.forall_mem_cons.mpr ⟨trivial, List.forall_mem_cons.mpr ⟨trivial, List.forall_mem_cons.mpr ⟨⟨by decide, by decide, zin 608 rfl rfl⟩, List.forall_mem_cons.mpr ⟨rfl, List.forall_mem_cons.mpr ⟨trivial, List.forall_mem_cons.mpr ⟨⟨by decide, by decide, zin 608 rfl rfl, rfl⟩, List.forall_mem_cons.mpr ⟨rfl, List.forall_mem_cons.mpr ⟨rfl, fun _ h => absurd h List.not_mem_nil⟩⟩⟩⟩⟩⟩⟩⟩⟩⟩⟩⟩⟩⟩⟩⟩⟩⟩⟩⟩⟩⟩⟩⟩⟩⟩⟩⟩⟩⟩⟩⟩⟩⟩⟩⟩⟩⟩⟩⟩⟩⟩⟩⟩⟩⟩⟩⟩⟩⟩⟩⟩⟩⟩⟩⟩⟩⟩⟩⟩⟩⟩⟩⟩⟩⟩⟩⟩⟩⟩⟩⟩⟩⟩⟩⟩⟩⟩⟩⟩⟩⟩⟩⟩⟩⟩⟩⟩⟩⟩⟩⟩⟩⟩⟩⟩⟩⟩⟩⟩⟩⟩⟩⟩
def zc_27 : List zE := [(0, .aload_n 0, 1, 0, 0, 0, 0),
  (1, .iconst 0, 1, 0, 0, 0, 0),
  (2, .putfield 136, 3, 0, 0, 6, 15),
  (5, .iconst 0, 1, 0, 0, 0, 0),
  (6, .istore_n 1, 1, 0, 0, 0, 0),
  (7, .iconst 1, 1, 1, 0, 0, 0),
  (8, .istore_n 2, 1, 0, 0, 0, 0),
  (9, .iload_n 2, 1, 0, 0, 0, 0),
  (10, .ifCond .eq 49, 3, 0, 59, 0, 0),
  (13, .aload_n 0, 1, 0, 0, 0, 0),
  (14, .invokevirtual 154, 3, 0, 0, 26, 0),
  (17, .ifCond .ne 6, 3, 0, 23, 0, 0),
  (20, .bipush (-5), 2, (-5), 0, 0, 0),
  (22, .ireturn, 1, 0, 0, 0, 0),
  (23, .iinc 1 1, 3, 1, 0, 0, 0),
  (26, .aload_n 0, 1, 0, 0, 0, 0),
  (27, .getfield 136, 3, 0, 0, 6, 15),
  (30, .aload_n 0, 1, 0, 0, 0, 0),
  (31, .getfield 133, 3, 0, 0, 6, 13),
  (34, .if_icmp .ge 7, 3, 0, 41, 0, 0),
  (37, .iconst 1, 1, 1, 0, 0, 0),
  (38, .goto 4, 3, 0, 42, 0, 0),
  (41, .iconst 0, 1, 0, 0, 0, 0),
  (42, .istore_n 2, 1, 0, 0, 0, 0),
  (43, .iload_n 2, 1, 0, 0, 0, 0),
  (44, .ifCond .eq (-35), 3, 0, 9, 0, 0),
  (47, .aload_n 0, 1, 0, 0, 0, 0),
  (48, .bipush 44, 2, 44, 0, 0, 0),
  (50, .invokevirtual 145, 3, 0, 0, 25, 1),
  (53, .ifCond .ne (-44), 3, 0, 9, 0, 0),
  (56, .bipush (-5), 2, (-5), 0, 0, 0),
  (58, .ireturn, 1, 0, 0, 0, 0),
  (59, .iload_n 1, 1, 0, 0, 0, 0),
  (60, .ireturn, 1, 0, 0, 0, 0)]
set_option maxRecDepth 40000 in
theorem zd_27 : ∀ q ∈ zc_27, decode (zbM 27) q.1 = .ok (q.2.1, zlen q.2.2.1 q.2.1) := by decide +kernel
set_option maxRecDepth 40000 in
theorem zo_27 : ∀ q ∈ zc_27, zOK zyM zbM zlM ztM zmci 27 (zyM 27).cls false q :=
  List.forall_mem_cons.mpr ⟨trivial, List.forall_mem_cons.mpr ⟨rfl, List.forall_mem_cons.mpr ⟨⟨by decide, by decide, zin 608 rfl rfl, rfl⟩, List.forall_mem_cons.mpr ⟨rfl, List.forall_mem_cons.mpr ⟨trivial, List.forall_mem_cons.mpr ⟨rfl, List.forall_mem_cons.mpr ⟨trivial, List.forall_mem_cons.mpr ⟨trivial, List.forall_mem_cons.mpr ⟨rfl, List.forall_mem_cons.mpr ⟨trivial, List.forall_mem_cons.mpr ⟨⟨by decide, by decide, rfl, zcl_26, zin 803 rfl rfl, zci_26, zcs_26⟩, List.forall_mem_cons.mpr ⟨rfl, List.forall_mem_cons.mpr ⟨rfl, List.forall_mem_cons.mpr ⟨rfl, List.forall_mem_cons.mpr ⟨rfl, List.forall_mem_cons.mpr ⟨trivial, List.forall_mem_cons.mpr ⟨⟨by decide, by decide, zin 608 rfl rfl⟩, List.forall_mem_cons.mpr ⟨trivial, List.forall_mem_cons.mpr ⟨⟨by decide, by decide, zin 606 rfl rfl⟩, List.forall_mem_cons.mpr ⟨rfl, List.forall_mem_cons.mpr ⟨rfl, List.forall_mem_cons.mpr ⟨rfl, List.forall_mem_cons.mpr ⟨rfl, List.forall_mem_cons.mpr ⟨trivial, List.forall_mem_cons.mpr ⟨trivial, List.forall_mem_cons.mpr ⟨rfl, List.forall_mem_cons.mpr ⟨trivial, List.forall_mem_cons.mpr ⟨rfl, List.forall_mem_cons.mpr ⟨⟨by decide, by decide, rfl, zcl_25, zin 811 rfl rfl, zci_25, zcs_25⟩, List.forall_mem_cons.mpr ⟨rfl, List.forall_mem_cons.mpr ⟨rfl, List.forall_mem_cons.mpr ⟨rfl, List.forall_mem_cons.mpr ⟨trivial, List.forall_mem_cons.mpr ⟨rfl, fun _ h => absurd h List.not_mem_nil⟩⟩⟩⟩⟩⟩⟩⟩⟩⟩⟩⟩⟩⟩⟩⟩⟩⟩⟩⟩⟩⟩⟩⟩⟩⟩⟩⟩⟩⟩⟩⟩⟩⟩
def zc_28 : List zE := [(0, .aload_n 0, 1, 0, 0, 0, 0),
  (1, .invokevirtual 158, 3, 0, 0, 27, 0),
  (4, .istore_n 1, 1, 0, 0, 0, 0),
  (5, .iload_n 1, 1, 0, 0, 0, 0),
  (6, .bipush (-5), 2, (-5), 0, 0, 0),
  (8, .if_icmp .ne 11, 3, 0, 19, 0, 0),
  (11, .bipush (-100), 2, (-100), 0, 0, 0),
  (13, .aload_n 0, 1, 0, 0, 0, 0),
  (14, .getfield 136, 3, 0, 0, 6, 15),
  (17, .isub, 1, 0, 0, 0, 0),
  (18, .ireturn, 1, 0, 0, 0, 0),
  (19, .iconst 0, 1, 0, 0, 0, 0),
  (20, .istore_n 2, 1, 0, 0, 0, 0),
  (21, .aload_n 0, 1, 0, 0, 0, 0),
  (22, .iconst 0, 1, 0, 0, 0, 0),
  (23, .putfield 136, 3, 0, 0, 6, 15),
  (26, .iconst 0, 1, 0, 0, 0, 0),
  (27, .istore_n 3, 1, 0, 0, 0, 0),
  (28, .iload_n 3, 1, 0, 0, 0, 0),
  (29, .iload_n 1, 1, 0, 0, 0, 0),
  (30, .if_icmp .ge 67, 3, 0, 97, 0, 0),
  (33, .aload_n 0, 1, 0, 0, 0, 0),
  (34, .invokevirtual 154, 3, 0, 0, 26, 0),
  (37, .pop, 1, 0, 0, 0, 0),
  (38, .aload_n 0, 1, 0, 0, 0, 0),
  (39, .dup, 1, 0, 0, 0, 0),
  (40, .getfield 136, 3, 0, 0, 6, 15),
  (43, .iconst 1, 1, 1, 0, 0, 0),
  (44, .iadd, 1, 0, 0, 0, 0),
  (45, .putfield 136, 3, 0, 0, 6, 15),
  (48, .aload_n 0, 1, 0, 0, 0, 0),
  (49, .aload_n 0, 1, 0, 0, 0, 0),
  (50, .getfield 142, 3, 0, 0, 6, 16),
  (53, .invokevirtual 84, 3, 0, 0, 7, 1),
  (56, .ifCond .ne 14, 3, 0, 70, 0, 0),
  (59, .aload_n 0, 1, 0, 0, 0, 0),
  (60, .aload_n 0, 1, 0, 0, 0, 0),
  (61, .getfield 148, 3, 0, 0, 6, 17),
  (64, .invokevirtual 84, 3, 0, 0, 7, 1),
  (67, .ifCond .eq 5, 3, 0, 72, 0, 0),
  (70, .iconst (-1), 1, (-1), 0, 0, 0),
  (71, .ireturn, 1, 0, 0, 0, 0),
  (72, .iload_n 2, 1, 0, 0, 0, 0),
  (73, .aload_n 0, 1, 0, 0, 0, 0),
  (74, .getfield 142, 3, 0, 0, 6, 16),
  (77, .aload_n 0, 1, 0, 0, 0, 0),
  (78, .getfield 148, 3, 0, 0, 6, 17),
  (81, .if_icmp .ne 7, 3, 0, 88, 0, 0),
  (84, .iconst 1, 1, 1, 0, 0, 0),
  (85, .goto 4, 3, 0, 89, 0, 0),
  (88, .iconst 0, 1, 0, 0, 0, 0),
  (89, .ior, 1, 0, 0, 0, 0),
  (90, .istore_n 2, 1, 0, 0, 0, 0),
  (91, .iinc 3 1, 3, 1, 0, 0, 0),
  (94, .goto (-66), 3, 0, 28, 0, 0),
  (97, .iload_n 2, 1, 0, 0, 0, 0),
  (98, .ifCond .eq 6, 3, 0, 104, 0, 0),
  (101, .bipush (-2), 2, (-2), 0, 0, 0),
  (103, .ireturn, 1, 0, 0, 0, 0),
  (104, .aload_n 0, 1, 0, 0, 0, 0),
  (105, .invokevirtual 77, 3, 0, 0, 2, 0),
  (108, .aload_n 0, 1, 0, 0, 0, 0),
  (109, .iconst 0, 1, 0, 0, 0, 0),
  (110, .putfield 136, 3, 0, 0, 6, 15),
  (113, .iconst 0, 1, 0, 0, 0, 0),
  (114, .istore_n 3, 1, 0, 0, 0, 0),
  (115, .iload_n 3, 1, 0, 0, 0, 0),
  (116, .iload_n 1, 1, 0, 0, 0, 0),
  (117, .if_icmp .ge 40, 3, 0, 157, 0, 0),
  (120, .aload_n 0, 1, 0, 0, 0, 0),
  (121, .invokevirtual 154, 3, 0, 0, 26, 0),
  (124, .pop, 1, 0, 0, 0, 0),
  (125, .aload_n 0, 1, 0, 0, 0, 0),
  (126, .dup, 1, 0, 0, 0, 0),
  (127, .getfield 136, 3, 0, 0, 6, 15),
  (130, .iconst 1, 1, 1, 0, 0, 0),
  (131, .iadd, 1, 0, 0, 0, 0),
  (132, .putfield 136, 3, 0, 0, 6, 15),
  (135, .aload_n 0, 1, 0, 0, 0, 0),
  (136, .aload_n 0, 1, 0, 0, 0, 0),
  (137, .getfield 142, 3, 0, 0, 6, 16),
  (140, .aload_n 0, 1, 0, 0, 0, 0),
  (141, .getfield 148, 3, 0, 0, 6, 17),
  (144, .aload_n 0, 1, 0, 0, 0, 0),
  (145, .getfield 151, 3, 0, 0, 6, 18),
  (148, .invokevirtual 100, 3, 0, 0, 22, 3),
  (151, .iinc 3 1, 3, 1, 0, 0, 0),
  (154, .goto (-39), 3, 0, 115, 0, 0),
  (157, .iload_n 1, 1, 0, 0, 0, 0),
  (158, .ireturn, 1, 0, 0, 0, 0)]
set_option maxRecDepth 40000 in
theorem zd_28 : ∀ q ∈ zc_28, decode (zbM 28) q.1 = .ok (q.2.1, zlen q.2.2.1 q.2.1) := by decide +kernel
set_option maxRecDepth 40000 in
theorem zo_28 : ∀ q ∈ zc_28, zOK zyM zbM zlM ztM zmci 28 (zyM 28).cls false q :=
  List.forall_mem_cons.mpr ⟨trivial, List.forall_mem_cons.mpr ⟨⟨by decide, by decide, rfl, zcl_27, zin 799 rfl rfl, zci_27, zcs_27⟩, List.forall_mem_cons.mpr ⟨trivial, List.forall_mem_cons.mpr ⟨trivial, List.forall_mem_cons.mpr ⟨rfl, List.forall_mem_cons.mpr ⟨rfl, List.forall_mem_cons.mpr ⟨rfl, List.forall_mem_cons.mpr ⟨trivial, List.forall_mem_cons.mpr ⟨⟨by decide, by decide, zin 608 rfl rfl⟩, List.forall_mem_cons.mpr ⟨trivial, List.forall_mem_cons.mpr ⟨rfl, List.forall_mem_cons.mpr ⟨rfl, List.forall_mem_cons.mpr ⟨trivial, List.forall_mem_cons.mpr ⟨trivial, List.forall_mem_cons.mpr ⟨rfl, List.forall_mem_cons.mpr ⟨⟨by decide, by decide, zin 608 rfl rfl, rfl⟩, List.forall_mem_cons.mpr ⟨rfl, List.forall_mem_cons.mpr ⟨trivial, List.forall_mem_cons.mpr ⟨trivial, List.forall_mem_cons.mpr ⟨trivial, List.forall_mem_cons.mpr ⟨rfl, List.forall_mem_cons.mpr ⟨trivial, List.forall_mem_cons.mpr ⟨⟨by decide, by decide, rfl, zcl_26, zin 803 rfl rfl, zci_26, zcs_26⟩, List.forall_mem_cons.mpr ⟨trivial, List.forall_mem_cons.mpr ⟨trivial, List.forall_mem_cons.mpr ⟨trivial, List.forall_mem_cons.mpr ⟨⟨by decide, by decide, zin 608 rfl rfl⟩, List.forall_mem_cons.mpr ⟨rfl, List.forall_mem_cons.mpr ⟨trivial, List.forall_mem_cons.mpr ⟨⟨by decide, by decide, zin 608 rfl rfl, rfl⟩, List.forall_mem_cons.mpr ⟨trivial, List.forall_mem_cons.mpr ⟨trivial, List.forall_mem_cons.mpr ⟨⟨by decide, by decide, zin 609 rfl rfl⟩, List.forall_mem_cons.mpr ⟨⟨by decide, by decide, rfl, zcl_7, zin 673 rfl rfl, zci_7, zcs_7⟩, List.forall_mem_cons.mpr ⟨rfl, List.forall_mem_cons.mpr ⟨trivial, List.forall_mem_cons.mpr ⟨trivial, List.forall_mem_cons.mpr ⟨⟨by decide, by decide, zin 610 rfl rfl⟩, List.forall_mem_cons.mpr ⟨⟨by decide, by decide, rfl, zcl_7, zin 673 rfl rfl, zci_7, zcs_7⟩, List.forall_mem_cons.mpr ⟨rfl, List.forall_mem_cons.mpr ⟨rfl, List.forall_mem_cons.mpr ⟨rfl, List.forall_mem_cons.mpr ⟨trivial, List.forall_mem_cons.mpr ⟨trivial, List.forall_mem_cons.mpr ⟨⟨by decide, by decide, zin 609 rfl rfl⟩, List.forall_mem_cons.mpr ⟨trivial, List.forall_mem_cons.mpr ⟨⟨by decide, by decide, zin 610 rfl rfl⟩, List.forall_mem_cons.mpr ⟨rfl, List.forall_mem_cons.mpr ⟨rfl, List.forall_mem_cons.mpr ⟨rfl, List.forall_mem_cons.mpr ⟨rfl, List.forall_mem_cons.mpr ⟨trivial, List.forall_mem_cons.mpr ⟨trivial, List.forall_mem_cons.mpr ⟨rfl, List.forall_mem_cons.mpr ⟨rfl, List.forall_mem_cons.mpr ⟨trivial, List.forall_mem_cons.mpr ⟨rfl, List.forall_mem_cons.mpr ⟨rfl, List.forall_mem_cons.mpr ⟨rfl, List.forall_mem_cons.mpr ⟨trivial, List.forall_mem_cons.mpr ⟨⟨by decide, by decide, rfl, zcl_2, zin 661 rfl rfl, zci_2, zcs_2⟩, List.forall_mem_cons.mpr ⟨trivial, List.forall_mem_cons.mpr ⟨rfl, List.forall_mem_cons.mpr ⟨⟨by decide, by decide, zin 608 rfl rfl, rfl⟩, List.forall_mem_cons.mpr ⟨rfl, List.forall_mem_cons.mpr ⟨trivial, List.forall_mem_cons.mpr ⟨trivial, List.forall_mem_cons.mpr ⟨trivial, List.forall_mem_cons.mpr ⟨rfl, List.forall_mem_cons.mpr ⟨trivial, List.forall_mem_cons.mpr ⟨⟨by decide, by decide, rfl, zcl_26, zin 803 rfl rfl, zci_26, zcs_26⟩, List.forall_mem_cons.mpr ⟨trivial, List.forall_mem_cons.mpr ⟨trivial, List.forall_mem_cons.mpr ⟨trivial, List.forall_mem_cons.mpr ⟨⟨by decide, by decide, zin 608 rfl rfl⟩, List.forall_mem_cons.mpr ⟨rfl, List.forall_mem_cons.mpr ⟨trivial, List.forall_mem_cons.mpr ⟨⟨by decide, by decide, zin 608 rfl rfl, rfl⟩, List.forall_mem_cons.mpr ⟨trivial, List.forall_mem_cons.mpr ⟨trivial, List.forall_mem_cons.mpr ⟨⟨by decide, by decide, zin 609 rfl rfl⟩, List.forall_mem_cons.mpr ⟨trivial, List.forall_mem_cons.mpr ⟨⟨by decide, by decide, zin 610 rfl rfl⟩, List.forall_mem_cons.mpr ⟨trivial, List.forall_mem_cons.mpr ⟨⟨by decide, by decide, zin 611 rfl rfl⟩, List.forall_mem_cons.mpr ⟨⟨by decide, by decide, rfl, zcl_22, zin 736 rfl rfl, zci_22, zcs_22⟩, List.forall_mem_cons.mpr ⟨rfl, List.forall_mem_cons.mpr ⟨rfl, List.forall_mem_cons.mpr ⟨trivial, List.forall_mem_cons.mpr ⟨rfl, fun _ h => absurd h List.not_mem_nil⟩⟩⟩⟩⟩⟩⟩⟩⟩⟩⟩⟩⟩⟩⟩⟩⟩⟩⟩⟩⟩⟩⟩⟩⟩⟩⟩⟩⟩⟩⟩⟩⟩⟩⟩⟩⟩⟩⟩⟩⟩⟩⟩⟩⟩⟩⟩⟩⟩⟩⟩⟩⟩⟩⟩⟩⟩⟩⟩⟩⟩⟩⟩⟩⟩⟩⟩⟩⟩⟩⟩⟩⟩⟩⟩⟩⟩⟩⟩⟩⟩⟩⟩⟩⟩⟩⟩⟩⟩⟩
def zc_29 : List zE := [(0, .iconst 0, 1, 0, 0, 0, 0),
  (1, .istore_n 2, 1, 0, 0, 0, 0),
  (2, .iconst 0, 1, 0, 0, 0, 0),
  (3, .istore_n 3, 1, 0, 0, 0, 0),
  (4, .iload_n 3, 1, 0, 0, 0, 0),
  (5, .aload_n 0, 1, 0, 0, 0, 0),
  (6, .getfield 7, 3, 0, 0, 6, 0),
  (9, .sipush 149, 3, 149, 0, 0, 0),
  (12, .iaload, 1, 0, 0, 0, 0),
  (13, .if_icmp .ge 28, 3, 0, 41, 0, 0),
  (16, .iload_n 2, 1, 0, 0, 0, 0),
  (17, .aload_n 0, 1, 0, 0, 0, 0),
  (18, .iload_n 1, 1, 0, 0, 0, 0),
  (19, .iload_n 3, 1, 0, 0, 0, 0),
  (20, .invokevirtual 54, 3, 0, 0, 8, 2),
  (23, .ifCond .le 9, 3, 0, 32, 0, 0),
  (26, .iconst 1, 1, 1, 0, 0, 0),
  (27, .iload_n 3, 1, 0, 0, 0, 0),
  (28, .ishl, 1, 0, 0, 0, 0),
  (29, .goto 4, 3, 0, 33, 0, 0),
  (32, .iconst 0, 1, 0, 0, 0, 0),
  (33, .ior, 1, 0, 0, 0, 0),
  (34, .istore_n 2, 1, 0, 0, 0, 0),
  (35, .iinc 3 1, 3, 1, 0, 0, 0),
  (38, .goto (-34), 3, 0, 4, 0, 0),
  (41, .iload_n 2, 1, 0, 0, 0, 0),
  (42, .ireturn, 1, 0, 0, 0, 0)]
set_option maxRecDepth 40000 in
theorem zd_29 : ∀ q ∈ zc_29, decode (zbM 29) q.1 = .ok (q.2.1, zlen q.2.2.1 q.2.1) := by decide +kernel
set_option maxRecDepth 40000 in
theorem zo_29 : ∀ q ∈ zc_29, zOK zyM zbM zlM ztM zmci 29 (zyM 29).cls false q :=
  List.forall_mem_cons.mpr ⟨rfl, List.forall_mem_cons.mpr ⟨trivial, List.forall_mem_cons.mpr ⟨rfl, List.forall_mem_cons.mpr ⟨trivial, List.forall_mem_cons.mpr ⟨trivial, List.forall_mem_cons.mpr ⟨trivial, List.forall_mem_cons.mpr ⟨⟨by decide, by decide, zin 593 rfl rfl⟩, List.forall_mem_cons.mpr ⟨rfl, List.forall_mem_cons.mpr ⟨(Or.inl rfl), List.forall_mem_cons.mpr ⟨rfl, List.forall_mem_cons.mpr ⟨trivial, List.forall_mem_cons.mpr ⟨trivial, List.forall_mem_cons.mpr ⟨trivial, List.forall_mem_cons.mpr ⟨trivial, List.forall_mem_cons.mpr ⟨⟨by decide, by decide, rfl, zcl_8, zin 701 rfl rfl, zci_8, zcs_8⟩, List.forall_mem_cons.mpr ⟨rfl, List.forall_mem_cons.mpr ⟨rfl, List.forall_mem_cons.mpr ⟨trivial, List.forall_mem_cons.mpr ⟨trivial, List.forall_mem_cons.mpr ⟨rfl, List.forall_mem_cons.mpr ⟨rfl, List.forall_mem_cons.mpr ⟨trivial, List.forall_mem_cons.mpr ⟨trivial, List.forall_mem_cons.mpr ⟨rfl, List.forall_mem_cons.mpr ⟨rfl, List.forall_mem_cons.mpr ⟨trivial, List.forall_mem_cons.mpr ⟨rfl, fun _ h => absurd h List.not_mem_nil⟩⟩⟩⟩⟩⟩⟩⟩⟩⟩⟩⟩⟩⟩⟩⟩⟩⟩⟩⟩⟩⟩⟩⟩⟩⟩⟩
def zc_30 : List zE := [(0, .aload_n 0, 1, 0, 0, 0, 0),
  (1, .iload_n 1, 1, 0, 0, 0, 0),
  (2, .invokevirtual 84, 3, 0, 0, 7, 1),
  (5, .ifCond .ne 11, 3, 0, 16, 0, 0),
  (8, .aload_n 0, 1, 0, 0, 0, 0),
  (9, .iload_n 2, 1, 0, 0, 0, 0),
  (10, .invokevirtual 84, 3, 0, 0, 7, 1),
  (13, .ifCond .eq 5, 3, 0, 18, 0, 0),
  (16, .iconst (-1), 1, (-1), 0, 0, 0),
  (17, .ireturn, 1, 0, 0, 0, 0),
  (18, .iload_n 1, 1, 0, 0, 0, 0),
  (19, .iload_n 2, 1, 0, 0, 0, 0),
  (20, .if_icmp .ne 6, 3, 0, 26, 0, 0),
  (23, .bipush (-2), 2, (-2), 0, 0, 0),
  (25, .ireturn, 1, 0, 0, 0, 0),
  (26, .aload_n 0, 1, 0, 0, 0, 0),
  (27, .iload_n 1, 1, 0, 0, 0, 0),
  (28, .iconst 2, 1, 2, 0, 0, 0),
  (29, .invokevirtual 43, 3, 0, 0, 5, 2),
  (32, .aload_n 0, 1, 0, 0, 0, 0),
  (33, .iload_n 2, 1, 0, 0, 0, 0),
  (34, .iconst 2, 1, 2, 0, 0, 0),
  (35, .invokevirtual 43, 3, 0, 0, 5, 2),
  (38, .iand, 1, 0, 0, 0, 0),
  (39, .istore_n 3, 1, 0, 0, 0, 0),
  (40, .aload_n 0, 1, 0, 0, 0, 0),
  (41, .iload_n 1, 1, 0, 0, 0, 0),
  (42, .iload_n 2, 1, 0, 0, 0, 0),
  (43, .invokevirtual 54, 3, 0, 0, 8, 2),
  (46, .ifCond .eq 27, 3, 0, 73, 0, 0),
  (49, .aload_n 0, 1, 0, 0, 0, 0),
  (50, .iload_n 1, 1, 0, 0, 0, 0),
  (51, .iconst 4, 1, 4, 0, 0, 0),
  (52, .invokevirtual 43, 3, 0, 0, 5, 2),
  (55, .iconst 1, 1, 1, 0, 0, 0),
  (56, .if_icmp .eq 17, 3, 0, 73, 0, 0),
  (59, .aload_n 0, 1, 0, 0, 0, 0),
  (60, .iload_n 2, 1, 0, 0, 0, 0),
  (61, .iconst 4, 1, 4, 0, 0, 0),
  (62, .invokevirtual 43, 3, 0, 0, 5, 2),
  (65, .iconst 1, 1, 1, 0, 0, 0),
  (66, .if_icmp .eq 7, 3, 0, 73, 0, 0),
  (69, .iload_n 3, 1, 0, 0, 0, 0),
  (70, .ifCond .ne 6, 3, 0, 76, 0, 0),
  (73, .bipush (-4), 2, (-4), 0, 0, 0),
  (75, .ireturn, 1, 0, 0, 0, 0),
  (76, .aload_n 0, 1, 0, 0, 0, 0),
  (77, .invokevirtual 77, 3, 0, 0, 2, 0),
  (80, .aload_n 0, 1, 0, 0, 0, 0),
  (81, .iload_n 1, 1, 0, 0, 0, 0),
  (82, .iload_n 2, 1, 0, 0, 0, 0),
  (83, .iconst 0, 1, 0, 0, 0, 0),
  (84, .invokevirtual 100, 3, 0, 0, 22, 3),
  (87, .iconst 0, 1, 0, 0, 0, 0),
  (88, .istore 4, 2, 0, 0, 0, 0),
  (90, .iload 4, 2, 0, 0, 0, 0),
  (92, .aload_n 0, 1, 0, 0, 0, 0),
  (93, .getfield 7, 3, 0, 0, 6, 0),
  (96, .sipush 132, 3, 132, 0, 0, 0),
  (99, .iaload, 1, 0, 0, 0, 0),
  (100, .if_icmp .ge 115, 3, 0, 215, 0, 0),
  (103, .aload_n 0, 1, 0, 0, 0, 0),
  (104, .getfield 7, 3, 0, 0, 6, 0),
  (107, .bipush 104, 2, 104, 0, 0, 0),
  (109, .iload 4, 2, 0, 0, 0, 0),
  (111, .iadd, 1, 0, 0, 0, 0),
  (112, .iaload, 1, 0, 0, 0, 0),
  (113, .istore 5, 2, 0, 0, 0, 0),
  (115, .iload 5, 2, 0, 0, 0, 0),
  (117, .bipush 10, 2, 10, 0, 0, 0),
  (119, .idiv, 1, 0, 0, 0, 0),
  (120, .iload_n 1, 1, 0, 0, 0, 0),
  (121, .if_icmp .ne 11, 3, 0, 132, 0, 0),
  (124, .iload 5, 2, 0, 0, 0, 0),
  (126, .bipush 10, 2, 10, 0, 0, 0),
  (128, .irem, 1, 0, 0, 0, 0),
  (129, .goto 22, 3, 0, 151, 0, 0),
  (132, .iload 5, 2, 0, 0, 0, 0),
  (134, .bipush 10, 2, 10, 0, 0, 0),
  (136, .irem, 1, 0, 0, 0, 0),
  (137, .iload_n 1, 1, 0, 0, 0, 0),
  (138, .if_icmp .ne 11, 3, 0, 149, 0, 0),
  (141, .iload 5, 2, 0, 0, 0, 0),
  (143, .bipush 10, 2, 10, 0, 0, 0),
  (145, .idiv, 1, 0, 0, 0, 0),
  (146, .goto 5, 3, 0, 151, 0, 0),
  (149, .bipush (-5), 2, (-5), 0, 0, 0),
  (151, .istore 6, 2, 0, 0, 0, 0),
  (153, .iload 6, 2, 0, 0, 0, 0),
  (155, .bipush (-5), 2, (-5), 0, 0, 0),
  (157, .if_icmp .ne 9, 3, 0, 166, 0, 0),
  (160, .iinc 4 1, 3, 1, 0, 0, 0),
  (163, .goto 49, 3, 0, 212, 0, 0),
  (166, .aload_n 0, 1, 0, 0, 0, 0),
  (167, .iload_n 1, 1, 0, 0, 0, 0),
  (168, .iload 6, 2, 0, 0, 0, 0),
  (170, .invokevirtual 54, 3, 0, 0, 8, 2),
  (173, .aload_n 0, 1, 0, 0, 0, 0),
  (174, .iload_n 2, 1, 0, 0, 0, 0),
  (175, .iload 6, 2, 0, 0, 0, 0),
  (177, .invokevirtual 54, 3, 0, 0, 8, 2),
  (180, .iadd, 1, 0, 0, 0, 0),
  (181, .istore 7, 2, 0, 0, 0, 0),
  (183, .aload_n 0, 1, 0, 0, 0, 0),
  (184, .iload_n 1, 1, 0, 0, 0, 0),
  (185, .iload 6, 2, 0, 0, 0, 0),
  (187, .iconst 0, 1, 0, 0, 0, 0),
  (188, .invokevirtual 100, 3, 0, 0, 22, 3),
  (191, .aload_n 0, 1, 0, 0, 0, 0),
  (192, .iload_n 2, 1, 0, 0, 0, 0),
  (193, .iload 6, 2, 0, 0, 0, 0),
  (195, .iload 7, 2, 0, 0, 0, 0),
  (197, .bipush 99, 2, 99, 0, 0, 0),
  (199, .if_icmp .le 8, 3, 0, 207, 0, 0),
  (202, .bipush 99, 2, 99, 0, 0, 0),
  (204, .goto 5, 3, 0, 209, 0, 0),
  (207, .iload 7, 2, 0, 0, 0, 0),
  (209, .invokevirtual 100, 3, 0, 0, 22, 3),
  (212, .goto (-122), 3, 0, 90, 0, 0),
  (215, .aload_n 0, 1, 0, 0, 0, 0),
  (216, .iload_n 1, 1, 0, 0, 0, 0),
  (217, .iconst 3, 1, 3, 0, 0, 0),
  (218, .invokevirtual 43, 3, 0, 0, 5, 2),
  (221, .aload_n 0, 1, 0, 0, 0, 0),
  (222, .iload_n 2, 1, 0, 0, 0, 0),
  (223, .iconst 3, 1, 3, 0, 0, 0),
  (224, .invokevirtual 43, 3, 0, 0, 5, 2),
  (227, .iadd, 1, 0, 0, 0, 0),
  (228, .istore 5, 2, 0, 0, 0, 0),
  (230, .aload_n 0, 1, 0, 0, 0, 0),
  (231, .iload_n 2, 1, 0, 0, 0, 0),
  (232, .iconst 3, 1, 3, 0, 0, 0),
  (233, .iload 5, 2, 0, 0, 0, 0),
  (235, .bipush 99, 2, 99, 0, 0, 0),
  (237, .if_icmp .le 8, 3, 0, 245, 0, 0),
  (240, .bipush 99, 2, 99, 0, 0, 0),
  (242, .goto 5, 3, 0, 247, 0, 0),
  (245, .iload 5, 2, 0, 0, 0, 0),
  (247, .invokevirtual 80, 3, 0, 0, 3, 3),
  (250, .aload_n 0, 1, 0, 0, 0, 0),
  (251, .iload_n 2, 1, 0, 0, 0, 0),
  (252, .iconst 2, 1, 2, 0, 0, 0),
  (253, .iload_n 3, 1, 0, 0, 0, 0),
  (254, .invokevirtual 80, 3, 0, 0, 3, 3),
  (257, .aload_n 0, 1, 0, 0, 0, 0),
  (258, .iload_n 1, 1, 0, 0, 0, 0),
  (259, .iconst 0, 1, 0, 0, 0, 0),
  (260, .iconst 0, 1, 0, 0, 0, 0),
  (261, .invokevirtual 80, 3, 0, 0, 3, 3),
  (264, .aload_n 0, 1, 0, 0, 0, 0),
  (265, .iload_n 2, 1, 0, 0, 0, 0),
  (266, .invokevirtual 103, 3, 0, 0, 29, 1),
  (269, .invokestatic 94, 3, 0, 1, 17, 1),
  (272, .ireturn, 1, 0, 0, 0, 0)]
set_option maxRecDepth 40000 in
theorem zd_30 : ∀ q ∈ zc_30, decode (zbM 30) q.1 = .ok (q.2.1, zlen q.2.2.1 q.2.1) := by decide +kernel
set_option maxRecDepth 40000 in
theorem zo_30 : ∀ q ∈ zc_30, zOK zyM zbM zlM ztM zmci 30 (zyM 30).cls false q :=
  List.forall_mem_cons.mpr ⟨trivial, List.forall_mem_cons.mpr ⟨trivial, List.forall_mem_cons.mpr ⟨⟨by decide, by decide, rfl, zcl_7, zin 673 rfl rfl, zci_7, zcs_7⟩, List.forall_mem_cons.mpr ⟨rfl, List.forall_mem_cons.mpr ⟨trivial, List.forall_mem_cons.mpr ⟨trivial, List.forall_mem_cons.mpr ⟨⟨by decide, by decide, rfl, zcl_7, zin 673 rfl rfl, zci_7, zcs_7⟩, List.forall_mem_cons.mpr ⟨rfl, List.forall_mem_cons.mpr ⟨rfl, List.forall_mem_cons.mpr ⟨rfl, List.forall_mem_cons.mpr ⟨trivial, List.forall_mem_cons.mpr ⟨trivial, List.forall_mem_cons.mpr ⟨rfl, List.forall_mem_cons.mpr ⟨rfl, List.forall_mem_cons.mpr ⟨rfl, List.forall_mem_cons.mpr ⟨trivial, List.forall_mem_cons.mpr ⟨trivial, List.forall_mem_cons.mpr ⟨rfl, List.forall_mem_cons.mpr ⟨⟨by decide, by decide, rfl, zcl_5, zin 681 rfl rfl, zci_5, zcs_5⟩, List.forall_mem_cons.mpr ⟨trivial, List.forall_mem_cons.mpr ⟨trivial, List.forall_mem_cons.mpr ⟨rfl, List.forall_mem_cons.mpr ⟨⟨by decide, by decide, rfl, zcl_5, zin 681 rfl rfl, zci_5, zcs_5⟩, List.forall_mem_cons.mpr ⟨trivial, List.forall_mem_cons.mpr ⟨trivial, List.forall_mem_cons.mpr ⟨trivial, List.forall_mem_cons.mpr ⟨trivial, List.forall_mem_cons.mpr ⟨trivial, List.forall_mem_cons.mpr ⟨⟨by decide, by decide, rfl, zcl_8, zin 701 rfl rfl, zci_8, zcs_8⟩, List.forall_mem_cons.mpr ⟨rfl, List.forall_mem_cons.mpr ⟨trivial, List.forall_mem_cons.mpr ⟨trivial, List.forall_mem_cons.mpr ⟨rfl, List.forall_mem_cons.mpr ⟨⟨by decide, by decide, rfl, zcl_5, zin 681 rfl rfl, zci_5, zcs_5⟩, List.forall_mem_cons.mpr ⟨rfl, List.forall_mem_cons.mpr ⟨rfl, List.forall_mem_cons.mpr ⟨trivial, List.forall_mem_cons.mpr ⟨trivial, List.forall_mem_cons.mpr ⟨rfl, List.forall_mem_cons.mpr ⟨⟨by decide, by decide, rfl, zcl_5, zin 681 rfl rfl, zci_5, zcs_5⟩, List.forall_mem_cons.mpr ⟨rfl, List.forall_mem_cons.mpr ⟨rfl, List.forall_mem_cons.mpr ⟨trivial, List.forall_mem_cons.mpr ⟨rfl, List.forall_mem_cons.mpr ⟨rfl, List.forall_mem_cons.mpr ⟨rfl, List.forall_mem_cons.mpr ⟨trivial, List.forall_mem_cons.mpr ⟨⟨by decide, by decide, rfl, zcl_2, zin 661 rfl rfl, zci_2, zcs_2⟩, List.forall_mem_cons.mpr ⟨trivial, List.forall_mem_cons.mpr ⟨trivial, List.forall_mem_cons.mpr ⟨trivial, List.forall_mem_cons.mpr ⟨rfl, List.forall_mem_cons.mpr ⟨⟨by decide, by decide, rfl, zcl_22, zin 736 rfl rfl, zci_22, zcs_22⟩, List.forall_mem_cons.mpr ⟨rfl, List.forall_mem_cons.mpr ⟨trivial, List.forall_mem_cons.mpr ⟨trivial, List.forall_mem_cons.mpr ⟨trivial, List.forall_mem_cons.mpr ⟨⟨by decide, by decide, zin 593 rfl rfl⟩, List.forall_mem_cons.mpr ⟨rfl, List.forall_mem_cons.mpr ⟨(Or.inl rfl), List.forall_mem_cons.mpr ⟨rfl, List.forall_mem_cons.mpr ⟨trivial, List.forall_mem_cons.mpr ⟨⟨by decide, by decide, zin 593 rfl rfl⟩, List.forall_mem_cons.mpr ⟨rfl, List.forall_mem_cons.mpr ⟨trivial, List.forall_mem_cons.mpr ⟨trivial, List.forall_mem_cons.mpr ⟨(Or.inl rfl), List.forall_mem_cons.mpr ⟨trivial, List.forall_mem_cons.mpr ⟨trivial, List.forall_mem_cons.mpr ⟨rfl, List.forall_mem_cons.mpr ⟨trivial, List.forall_mem_cons.mpr ⟨trivial, List.forall_mem_cons.mpr ⟨rfl, List.forall_mem_cons.mpr ⟨trivial, List.forall_mem_cons.mpr ⟨rfl, List.forall_mem_cons.mpr ⟨trivial, List.forall_mem_cons.mpr ⟨rfl, List.forall_mem_cons.mpr ⟨trivial, List.forall_mem_cons.mpr ⟨rfl, List.forall_mem_cons.mpr ⟨trivial, List.forall_mem_cons.mpr ⟨trivial, List.forall_mem_cons.mpr ⟨rfl, List.forall_mem_cons.mpr ⟨trivial, List.forall_mem_cons.mpr ⟨rfl, List.forall_mem_cons.mpr ⟨trivial, List.forall_mem_cons.mpr ⟨rfl, List.forall_mem_cons.mpr ⟨rfl, List.forall_mem_cons.mpr ⟨trivial, List.forall_mem_cons.mpr ⟨trivial, List.forall_mem_cons.mpr ⟨rfl, List.forall_mem_cons.mpr ⟨rfl, List.forall_mem_cons.mpr ⟨rfl, List.forall_mem_cons.mpr ⟨rfl, List.forall_mem_cons.mpr ⟨trivial, List.forall_mem_cons.mpr ⟨trivial, List.forall_mem_cons.mpr ⟨trivial, List.forall_mem_cons.mpr ⟨⟨by decide, by decide, rfl, zcl_8, zin 701 rfl rfl, zci_8, zcs_8⟩, List.forall_mem_cons.mpr ⟨trivial, List.forall_mem_cons.mpr ⟨trivial, List.forall_mem_cons.mpr ⟨trivial, List.forall_mem_cons.mpr ⟨⟨by decide, by decide, rfl, zcl_8, zin 701 rfl rfl, zci_8, zcs_8⟩, List.forall_mem_cons.mpr ⟨trivial, List.forall_mem_cons.mpr ⟨trivial, List.forall_mem_cons.mpr ⟨trivial, List.forall_mem_cons.mpr ⟨trivial, List.forall_mem_cons.mpr ⟨trivial, List.forall_mem_cons.mpr ⟨rfl, List.forall_mem_cons.mpr ⟨⟨by decide, by decide, rfl, zcl_22, zin 736 rfl rfl, zci_22, zcs_22⟩, List.forall_mem_cons.mpr ⟨trivial, List.forall_mem_cons.mpr ⟨trivial, List.forall_mem_cons.mpr ⟨trivial, List.forall_mem_cons.mpr ⟨trivial, List.forall_mem_cons.mpr ⟨rfl, List.forall_mem_cons.mpr ⟨rfl, List.forall_mem_cons.mpr ⟨rfl, List.forall_mem_cons.mpr ⟨rfl, List.forall_mem_cons.mpr ⟨trivial, List.forall_mem_cons.mpr ⟨⟨by decide, by decide, rfl, zcl_22, zin 736 rfl rfl, zci_22, zcs_22⟩, List.forall_mem_cons.mpr ⟨rfl, List.forall_mem_cons.mpr ⟨trivial, List.forall_mem_cons.mpr ⟨trivial, List.forall_mem_cons.mpr ⟨rfl, List.forall_mem_cons.mpr ⟨⟨by decide, by decide, rfl, zcl_5, zin 681 rfl rfl, zci_5, zcs_5⟩, List.forall_mem_cons.mpr ⟨trivial, List.forall_mem_cons.mpr ⟨trivial, List.forall_mem_cons.mpr ⟨rfl, List.forall_mem_cons.mpr ⟨⟨by decide, by decide, rfl, zcl_5, zin 681 rfl rfl, zci_5, zcs_5⟩, List.forall_mem_cons.mpr ⟨trivial, List.forall_mem_cons.mpr ⟨trivial, List.forall_mem_cons.mpr ⟨trivial, List.forall_mem_cons.mpr ⟨trivial, List.forall_mem_cons.mpr ⟨rfl, List.forall_mem_cons.mpr ⟨trivial, List.forall_mem_cons.mpr ⟨rfl, List.forall_mem_cons.mpr ⟨rfl, List.forall_mem_cons.mpr ⟨rfl, List.forall_mem_cons.mpr ⟨rfl, List.forall_mem_cons.mpr ⟨trivial, List.forall_mem_cons.mpr ⟨⟨by decide, by decide, rfl, zcl_3, zin 665 rfl rfl, zci_3, zcs_3⟩, List.forall_mem_cons.mpr ⟨trivial, List.forall_mem_cons.mpr ⟨trivial, List.forall_mem_cons.mpr ⟨rfl, List.forall_mem_cons.mpr ⟨trivial, List.forall_mem_cons.mpr ⟨⟨by decide, by decide, rfl, zcl_3, zin 665 rfl rfl, zci_3, zcs_3⟩, List.forall_mem_cons.mpr ⟨trivial, List.forall_mem_cons.mpr ⟨trivial, List.forall_mem_cons.mpr ⟨rfl, List.forall_mem_cons.mpr ⟨rfl, List.forall_mem_cons.mpr ⟨⟨by decide, by decide, rfl, zcl_3, zin 665 rfl rfl, zci_3, zcs_3⟩, List.forall_mem_cons.mpr ⟨trivial, List.forall_mem_cons.mpr ⟨trivial, List.forall_mem_cons.mpr ⟨⟨by decide, by decide, rfl, zcl_29, zin 747 rfl rfl, zci_29, zcs_29⟩, List.forall_mem_cons.mpr ⟨(Or.inr (Or.inr (Or.inr (Or.inl ⟨rfl, by decide, zcl_17, zct_17, zin 721 rfl rfl⟩)))), List.forall_mem_cons.mpr ⟨rfl, fun _ h => absurd h List.not_mem_nil⟩⟩⟩⟩⟩⟩⟩⟩⟩⟩⟩⟩⟩⟩⟩⟩⟩⟩⟩⟩⟩⟩⟩⟩⟩⟩⟩⟩⟩⟩⟩⟩⟩⟩⟩⟩⟩⟩⟩⟩⟩⟩⟩⟩⟩⟩⟩⟩⟩⟩⟩⟩⟩⟩⟩⟩⟩⟩⟩⟩⟩⟩⟩⟩⟩⟩⟩⟩⟩⟩⟩⟩⟩⟩⟩⟩⟩⟩⟩⟩⟩⟩⟩⟩⟩⟩⟩⟩⟩⟩⟩⟩⟩⟩⟩⟩⟩⟩⟩⟩⟩⟩⟩⟩⟩⟩⟩⟩⟩⟩⟩⟩⟩⟩⟩⟩⟩⟩⟩⟩⟩⟩⟩⟩⟩⟩⟩⟩⟩⟩⟩⟩⟩⟩⟩⟩⟩⟩⟩⟩⟩⟩⟩⟩⟩⟩⟩⟩⟩⟩⟩⟩⟩⟩
end
