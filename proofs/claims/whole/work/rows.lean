section
-- ===== PART A: goes FIRST, ahead of the names: the tables' words, and 'selects' of the private methods out of them =====
/-- a private method of a class that the tables say can be made, by its rows of tables_1 -/
def lw_okq (q : MethodName × Nat) : Prop := (q.1.cls ≠ "java/lang/invoke/MethodHandle" ∧ q.1.cls ≠ "java/lang/invoke/VarHandle") ∧ Cond.instantiable q.1.cls q.2 ∈ tables_1 ∧ Cond.privateMethod q.1 ∈ tables_1 ∧ Cond.instanceMethod q.1 ∈ tables_1
theorem lw_p0 : lw_okq (⟨"SuffixRows$Whole", "layLetter", "(II)V"⟩, 5) := ⟨⟨by decide +kernel, by decide +kernel⟩, List.mem_of_getElem? (i := 45) (by decide +kernel), List.mem_of_getElem? (i := 303) (by decide +kernel), List.mem_of_getElem? (i := 304) (by decide +kernel)⟩
theorem lw_p1 : lw_okq (⟨"SuffixRows$Sorter", "makeLevelBelow", "(I)V"⟩, 11) := ⟨⟨by decide +kernel, by decide +kernel⟩, List.mem_of_getElem? (i := 84) (by decide +kernel), List.mem_of_getElem? (i := 316) (by decide +kernel), List.mem_of_getElem? (i := 317) (by decide +kernel)⟩
theorem lw_p2 : lw_okq (⟨"SuffixRows$Sorter", "markRises", "(I)V"⟩, 11) := ⟨⟨by decide +kernel, by decide +kernel⟩, List.mem_of_getElem? (i := 84) (by decide +kernel), List.mem_of_getElem? (i := 320) (by decide +kernel), List.mem_of_getElem? (i := 321) (by decide +kernel)⟩
theorem lw_p3 : lw_okq (⟨"SuffixRows$Sorter", "collectTurns", "(II)I"⟩, 11) := ⟨⟨by decide +kernel, by decide +kernel⟩, List.mem_of_getElem? (i := 84) (by decide +kernel), List.mem_of_getElem? (i := 324) (by decide +kernel), List.mem_of_getElem? (i := 325) (by decide +kernel)⟩
theorem lw_p4 : lw_okq (⟨"SuffixRows$Sorter", "isTurn", "(II)Z"⟩, 11) := ⟨⟨by decide +kernel, by decide +kernel⟩, List.mem_of_getElem? (i := 84) (by decide +kernel), List.mem_of_getElem? (i := 328) (by decide +kernel), List.mem_of_getElem? (i := 329) (by decide +kernel)⟩
theorem lw_p5 : lw_okq (⟨"SuffixRows$Sorter", "induce", "(II)V"⟩, 11) := ⟨⟨by decide +kernel, by decide +kernel⟩, List.mem_of_getElem? (i := 84) (by decide +kernel), List.mem_of_getElem? (i := 332) (by decide +kernel), List.mem_of_getElem? (i := 333) (by decide +kernel)⟩
theorem lw_p6 : lw_okq (⟨"SuffixRows$Sorter", "countLetters", "(I)V"⟩, 11) := ⟨⟨by decide +kernel, by decide +kernel⟩, List.mem_of_getElem? (i := 84) (by decide +kernel), List.mem_of_getElem? (i := 336) (by decide +kernel), List.mem_of_getElem? (i := 337) (by decide +kernel)⟩
theorem lw_p7 : lw_okq (⟨"SuffixRows$Sorter", "putSeeds", "(II)V"⟩, 11) := ⟨⟨by decide +kernel, by decide +kernel⟩, List.mem_of_getElem? (i := 84) (by decide +kernel), List.mem_of_getElem? (i := 346) (by decide +kernel), List.mem_of_getElem? (i := 347) (by decide +kernel)⟩
theorem lw_p8 : lw_okq (⟨"SuffixRows$Sorter", "putLast", "(II)V"⟩, 11) := ⟨⟨by decide +kernel, by decide +kernel⟩, List.mem_of_getElem? (i := 84) (by decide +kernel), List.mem_of_getElem? (i := 350) (by decide +kernel), List.mem_of_getElem? (i := 351) (by decide +kernel)⟩
theorem lw_p9 : lw_okq (⟨"SuffixRows$Sorter", "induceFalling", "(I)V"⟩, 11) := ⟨⟨by decide +kernel, by decide +kernel⟩, List.mem_of_getElem? (i := 84) (by decide +kernel), List.mem_of_getElem? (i := 354) (by decide +kernel), List.mem_of_getElem? (i := 355) (by decide +kernel)⟩
theorem lw_p10 : lw_okq (⟨"SuffixRows$Sorter", "putFirst", "(II)V"⟩, 11) := ⟨⟨by decide +kernel, by decide +kernel⟩, List.mem_of_getElem? (i := 84) (by decide +kernel), List.mem_of_getElem? (i := 358) (by decide +kernel), List.mem_of_getElem? (i := 359) (by decide +kernel)⟩
theorem lw_p11 : lw_okq (⟨"SuffixRows$Sorter", "induceRising", "(I)V"⟩, 11) := ⟨⟨by decide +kernel, by decide +kernel⟩, List.mem_of_getElem? (i := 84) (by decide +kernel), List.mem_of_getElem? (i := 362) (by decide +kernel), List.mem_of_getElem? (i := 363) (by decide +kernel)⟩
theorem lw_p12 : lw_okq (⟨"SuffixRows$Sorter", "namePieces", "(I)I"⟩, 11) := ⟨⟨by decide +kernel, by decide +kernel⟩, List.mem_of_getElem? (i := 84) (by decide +kernel), List.mem_of_getElem? (i := 366) (by decide +kernel), List.mem_of_getElem? (i := 367) (by decide +kernel)⟩
theorem lw_p13 : lw_okq (⟨"SuffixRows$Sorter", "isSamePiece", "(III)Z"⟩, 11) := ⟨⟨by decide +kernel, by decide +kernel⟩, List.mem_of_getElem? (i := 84) (by decide +kernel), List.mem_of_getElem? (i := 370) (by decide +kernel), List.mem_of_getElem? (i := 371) (by decide +kernel)⟩
theorem lw_p14 : lw_okq (⟨"SuffixRows$Sorter", "orderByNames", "(I)V"⟩, 11) := ⟨⟨by decide +kernel, by decide +kernel⟩, List.mem_of_getElem? (i := 84) (by decide +kernel), List.mem_of_getElem? (i := 374) (by decide +kernel), List.mem_of_getElem? (i := 375) (by decide +kernel)⟩
theorem lw_p15 : lw_okq (⟨"SuffixRows$Sorter", "orderFromBelow", "(I)V"⟩, 11) := ⟨⟨by decide +kernel, by decide +kernel⟩, List.mem_of_getElem? (i := 84) (by decide +kernel), List.mem_of_getElem? (i := 378) (by decide +kernel), List.mem_of_getElem? (i := 379) (by decide +kernel)⟩
def lw_privs_1 : List (MethodName × Nat) := [(⟨"SuffixRows$Whole", "layLetter", "(II)V"⟩, 5), (⟨"SuffixRows$Sorter", "makeLevelBelow", "(I)V"⟩, 11), (⟨"SuffixRows$Sorter", "markRises", "(I)V"⟩, 11), (⟨"SuffixRows$Sorter", "collectTurns", "(II)I"⟩, 11), (⟨"SuffixRows$Sorter", "isTurn", "(II)Z"⟩, 11), (⟨"SuffixRows$Sorter", "induce", "(II)V"⟩, 11), (⟨"SuffixRows$Sorter", "countLetters", "(I)V"⟩, 11), (⟨"SuffixRows$Sorter", "putSeeds", "(II)V"⟩, 11), (⟨"SuffixRows$Sorter", "putLast", "(II)V"⟩, 11), (⟨"SuffixRows$Sorter", "induceFalling", "(I)V"⟩, 11), (⟨"SuffixRows$Sorter", "putFirst", "(II)V"⟩, 11), (⟨"SuffixRows$Sorter", "induceRising", "(I)V"⟩, 11), (⟨"SuffixRows$Sorter", "namePieces", "(I)I"⟩, 11), (⟨"SuffixRows$Sorter", "isSamePiece", "(III)Z"⟩, 11), (⟨"SuffixRows$Sorter", "orderByNames", "(I)V"⟩, 11), (⟨"SuffixRows$Sorter", "orderFromBelow", "(I)V"⟩, 11)]
theorem lw_r1 : ∀ q ∈ lw_privs_1, lw_okq q := List.forall_mem_cons.mpr ⟨lw_p0, List.forall_mem_cons.mpr ⟨lw_p1, List.forall_mem_cons.mpr ⟨lw_p2, List.forall_mem_cons.mpr ⟨lw_p3, List.forall_mem_cons.mpr ⟨lw_p4, List.forall_mem_cons.mpr ⟨lw_p5, List.forall_mem_cons.mpr ⟨lw_p6, List.forall_mem_cons.mpr ⟨lw_p7, List.forall_mem_cons.mpr ⟨lw_p8, List.forall_mem_cons.mpr ⟨lw_p9, List.forall_mem_cons.mpr ⟨lw_p10, List.forall_mem_cons.mpr ⟨lw_p11, List.forall_mem_cons.mpr ⟨lw_p12, List.forall_mem_cons.mpr ⟨lw_p13, List.forall_mem_cons.mpr ⟨lw_p14, List.forall_mem_cons.mpr ⟨lw_p15, fun _ h => absurd h List.not_mem_nil⟩⟩⟩⟩⟩⟩⟩⟩⟩⟩⟩⟩⟩⟩⟩⟩
theorem lw_p16 : lw_okq (⟨"SuffixRows$Row", "measureBesides", "()V"⟩, 5) := ⟨⟨by decide +kernel, by decide +kernel⟩, List.mem_of_getElem? (i := 78) (by decide +kernel), List.mem_of_getElem? (i := 383) (by decide +kernel), List.mem_of_getElem? (i := 384) (by decide +kernel)⟩
theorem lw_p17 : lw_okq (⟨"SuffixRows$Copies", "chainAll", "()V"⟩, 8) := ⟨⟨by decide +kernel, by decide +kernel⟩, List.mem_of_getElem? (i := 154) (by decide +kernel), List.mem_of_getElem? (i := 395) (by decide +kernel), List.mem_of_getElem? (i := 396) (by decide +kernel)⟩
theorem lw_p18 : lw_okq (⟨"SuffixRows$Copies", "takeLongest", "(I)V"⟩, 8) := ⟨⟨by decide +kernel, by decide +kernel⟩, List.mem_of_getElem? (i := 154) (by decide +kernel), List.mem_of_getElem? (i := 399) (by decide +kernel), List.mem_of_getElem? (i := 400) (by decide +kernel)⟩
theorem lw_p19 : lw_okq (⟨"SuffixRows$Copies", "unchain", "(I)V"⟩, 8) := ⟨⟨by decide +kernel, by decide +kernel⟩, List.mem_of_getElem? (i := 154) (by decide +kernel), List.mem_of_getElem? (i := 406) (by decide +kernel), List.mem_of_getElem? (i := 407) (by decide +kernel)⟩
theorem lw_p20 : lw_okq (⟨"SuffixRows$Copies", "leastLike", "(I)I"⟩, 8) := ⟨⟨by decide +kernel, by decide +kernel⟩, List.mem_of_getElem? (i := 154) (by decide +kernel), List.mem_of_getElem? (i := 413) (by decide +kernel), List.mem_of_getElem? (i := 414) (by decide +kernel)⟩
theorem lw_p21 : lw_okq (⟨"SuffixRows$Copies", "countPieces", "()V"⟩, 8) := ⟨⟨by decide +kernel, by decide +kernel⟩, List.mem_of_getElem? (i := 154) (by decide +kernel), List.mem_of_getElem? (i := 417) (by decide +kernel), List.mem_of_getElem? (i := 418) (by decide +kernel)⟩
theorem lw_p22 : lw_okq (⟨"SuffixRows$Pattern", "sideOf", "(I)I"⟩, 4) := ⟨⟨by decide +kernel, by decide +kernel⟩, List.mem_of_getElem? (i := 188) (by decide +kernel), List.mem_of_getElem? (i := 492) (by decide +kernel), List.mem_of_getElem? (i := 493) (by decide +kernel)⟩
theorem lw_p23 : lw_okq (⟨"SuffixRows$Pattern", "alikeAt", "(I)I"⟩, 4) := ⟨⟨by decide +kernel, by decide +kernel⟩, List.mem_of_getElem? (i := 188) (by decide +kernel), List.mem_of_getElem? (i := 496) (by decide +kernel), List.mem_of_getElem? (i := 497) (by decide +kernel)⟩
theorem lw_p24 : lw_okq (⟨"SuffixRows$Stretches", "isRunEnd", "(II)Z"⟩, 2) := ⟨⟨by decide +kernel, by decide +kernel⟩, List.mem_of_getElem? (i := 208) (by decide +kernel), List.mem_of_getElem? (i := 550) (by decide +kernel), List.mem_of_getElem? (i := 551) (by decide +kernel)⟩
theorem lw_p25 : lw_okq (⟨"SuffixRows$Stretches", "isEnough", "(IIIIZ)Z"⟩, 2) := ⟨⟨by decide +kernel, by decide +kernel⟩, List.mem_of_getElem? (i := 208) (by decide +kernel), List.mem_of_getElem? (i := 554) (by decide +kernel), List.mem_of_getElem? (i := 555) (by decide +kernel)⟩
theorem lw_p26 : lw_okq (⟨"SuffixRows$Stretches", "longestLength", "(IZ)I"⟩, 2) := ⟨⟨by decide +kernel, by decide +kernel⟩, List.mem_of_getElem? (i := 208) (by decide +kernel), List.mem_of_getElem? (i := 567) (by decide +kernel), List.mem_of_getElem? (i := 568) (by decide +kernel)⟩
theorem lw_p27 : lw_okq (⟨"SuffixRows$Stretches", "firstRunEnd", "(IIZ)I"⟩, 2) := ⟨⟨by decide +kernel, by decide +kernel⟩, List.mem_of_getElem? (i := 208) (by decide +kernel), List.mem_of_getElem? (i := 571) (by decide +kernel), List.mem_of_getElem? (i := 572) (by decide +kernel)⟩
theorem lw_p28 : lw_okq (⟨"SuffixRows$Stretches", "runStart", "(II)I"⟩, 2) := ⟨⟨by decide +kernel, by decide +kernel⟩, List.mem_of_getElem? (i := 208) (by decide +kernel), List.mem_of_getElem? (i := 575) (by decide +kernel), List.mem_of_getElem? (i := 576) (by decide +kernel)⟩
theorem lw_p29 : lw_okq (⟨"SuffixRowsModel", "comeTo", "(II)V"⟩, 15) := ⟨⟨by decide +kernel, by decide +kernel⟩, List.mem_of_getElem? (i := 621) (by decide +kernel), List.mem_of_getElem? (i := 687) (by decide +kernel), List.mem_of_getElem? (i := 688) (by decide +kernel)⟩
theorem lw_p30 : lw_okq (⟨"SuffixRowsModel", "isLess", "(II)Z"⟩, 15) := ⟨⟨by decide +kernel, by decide +kernel⟩, List.mem_of_getElem? (i := 621) (by decide +kernel), List.mem_of_getElem? (i := 699) (by decide +kernel), List.mem_of_getElem? (i := 700) (by decide +kernel)⟩
theorem lw_p31 : lw_okq (⟨"SuffixRowsModel", "common0", "(II)I"⟩, 15) := ⟨⟨by decide +kernel, by decide +kernel⟩, List.mem_of_getElem? (i := 621) (by decide +kernel), List.mem_of_getElem? (i := 703) (by decide +kernel), List.mem_of_getElem? (i := 704) (by decide +kernel)⟩
def lw_privs_2 : List (MethodName × Nat) := [(⟨"SuffixRows$Row", "measureBesides", "()V"⟩, 5), (⟨"SuffixRows$Copies", "chainAll", "()V"⟩, 8), (⟨"SuffixRows$Copies", "takeLongest", "(I)V"⟩, 8), (⟨"SuffixRows$Copies", "unchain", "(I)V"⟩, 8), (⟨"SuffixRows$Copies", "leastLike", "(I)I"⟩, 8), (⟨"SuffixRows$Copies", "countPieces", "()V"⟩, 8), (⟨"SuffixRows$Pattern", "sideOf", "(I)I"⟩, 4), (⟨"SuffixRows$Pattern", "alikeAt", "(I)I"⟩, 4), (⟨"SuffixRows$Stretches", "isRunEnd", "(II)Z"⟩, 2), (⟨"SuffixRows$Stretches", "isEnough", "(IIIIZ)Z"⟩, 2), (⟨"SuffixRows$Stretches", "longestLength", "(IZ)I"⟩, 2), (⟨"SuffixRows$Stretches", "firstRunEnd", "(IIZ)I"⟩, 2), (⟨"SuffixRows$Stretches", "runStart", "(II)I"⟩, 2), (⟨"SuffixRowsModel", "comeTo", "(II)V"⟩, 15), (⟨"SuffixRowsModel", "isLess", "(II)Z"⟩, 15), (⟨"SuffixRowsModel", "common0", "(II)I"⟩, 15)]
theorem lw_r2 : ∀ q ∈ lw_privs_2, lw_okq q := List.forall_mem_cons.mpr ⟨lw_p16, List.forall_mem_cons.mpr ⟨lw_p17, List.forall_mem_cons.mpr ⟨lw_p18, List.forall_mem_cons.mpr ⟨lw_p19, List.forall_mem_cons.mpr ⟨lw_p20, List.forall_mem_cons.mpr ⟨lw_p21, List.forall_mem_cons.mpr ⟨lw_p22, List.forall_mem_cons.mpr ⟨lw_p23, List.forall_mem_cons.mpr ⟨lw_p24, List.forall_mem_cons.mpr ⟨lw_p25, List.forall_mem_cons.mpr ⟨lw_p26, List.forall_mem_cons.mpr ⟨lw_p27, List.forall_mem_cons.mpr ⟨lw_p28, List.forall_mem_cons.mpr ⟨lw_p29, List.forall_mem_cons.mpr ⟨lw_p30, List.forall_mem_cons.mpr ⟨lw_p31, fun _ h => absurd h List.not_mem_nil⟩⟩⟩⟩⟩⟩⟩⟩⟩⟩⟩⟩⟩⟩⟩⟩
theorem lw_p32 : lw_okq (⟨"SuffixRowsModel", "isPlace", "(I)Z"⟩, 15) := ⟨⟨by decide +kernel, by decide +kernel⟩, List.mem_of_getElem? (i := 621) (by decide +kernel), List.mem_of_getElem? (i := 711) (by decide +kernel), List.mem_of_getElem? (i := 712) (by decide +kernel)⟩
theorem lw_p33 : lw_okq (⟨"SuffixRowsModel", "beside0", "(I)I"⟩, 15) := ⟨⟨by decide +kernel, by decide +kernel⟩, List.mem_of_getElem? (i := 621) (by decide +kernel), List.mem_of_getElem? (i := 731) (by decide +kernel), List.mem_of_getElem? (i := 732) (by decide +kernel)⟩
theorem lw_p34 : lw_okq (⟨"SuffixRowsModel", "copyOf", "(I)I"⟩, 15) := ⟨⟨by decide +kernel, by decide +kernel⟩, List.mem_of_getElem? (i := 621) (by decide +kernel), List.mem_of_getElem? (i := 743) (by decide +kernel), List.mem_of_getElem? (i := 744) (by decide +kernel)⟩
theorem lw_p35 : lw_okq (⟨"SuffixRowsModel", "matched", "(I)I"⟩, 15) := ⟨⟨by decide +kernel, by decide +kernel⟩, List.mem_of_getElem? (i := 621) (by decide +kernel), List.mem_of_getElem? (i := 759) (by decide +kernel), List.mem_of_getElem? (i := 760) (by decide +kernel)⟩
theorem lw_p36 : lw_okq (⟨"SuffixRowsModel", "toEnd", "(I)I"⟩, 15) := ⟨⟨by decide +kernel, by decide +kernel⟩, List.mem_of_getElem? (i := 621) (by decide +kernel), List.mem_of_getElem? (i := 771) (by decide +kernel), List.mem_of_getElem? (i := 772) (by decide +kernel)⟩
theorem lw_p37 : lw_okq (⟨"SuffixRowsModel", "tellStretch", "(III)I"⟩, 15) := ⟨⟨by decide +kernel, by decide +kernel⟩, List.mem_of_getElem? (i := 621) (by decide +kernel), List.mem_of_getElem? (i := 783) (by decide +kernel), List.mem_of_getElem? (i := 784) (by decide +kernel)⟩
theorem lw_p38 : lw_okq (⟨"SuffixRowsModel", "mth", "(I)I"⟩, 15) := ⟨⟨by decide +kernel, by decide +kernel⟩, List.mem_of_getElem? (i := 621) (by decide +kernel), List.mem_of_getElem? (i := 791) (by decide +kernel), List.mem_of_getElem? (i := 792) (by decide +kernel)⟩
theorem lw_p39 : lw_okq (⟨"SuffixRowsModel", "placeBefore", "(I)I"⟩, 15) := ⟨⟨by decide +kernel, by decide +kernel⟩, List.mem_of_getElem? (i := 621) (by decide +kernel), List.mem_of_getElem? (i := 799) (by decide +kernel), List.mem_of_getElem? (i := 800) (by decide +kernel)⟩
def lw_privs_3 : List (MethodName × Nat) := [(⟨"SuffixRowsModel", "isPlace", "(I)Z"⟩, 15), (⟨"SuffixRowsModel", "beside0", "(I)I"⟩, 15), (⟨"SuffixRowsModel", "copyOf", "(I)I"⟩, 15), (⟨"SuffixRowsModel", "matched", "(I)I"⟩, 15), (⟨"SuffixRowsModel", "toEnd", "(I)I"⟩, 15), (⟨"SuffixRowsModel", "tellStretch", "(III)I"⟩, 15), (⟨"SuffixRowsModel", "mth", "(I)I"⟩, 15), (⟨"SuffixRowsModel", "placeBefore", "(I)I"⟩, 15)]
theorem lw_r3 : ∀ q ∈ lw_privs_3, lw_okq q := List.forall_mem_cons.mpr ⟨lw_p32, List.forall_mem_cons.mpr ⟨lw_p33, List.forall_mem_cons.mpr ⟨lw_p34, List.forall_mem_cons.mpr ⟨lw_p35, List.forall_mem_cons.mpr ⟨lw_p36, List.forall_mem_cons.mpr ⟨lw_p37, List.forall_mem_cons.mpr ⟨lw_p38, List.forall_mem_cons.mpr ⟨lw_p39, fun _ h => absurd h List.not_mem_nil⟩⟩⟩⟩⟩⟩⟩⟩
def lw_privs : List (MethodName × Nat) := lw_privs_1 ++ (lw_privs_2 ++ (lw_privs_3))
def lw_tbl : List Cond := k2_sels lw_privs ++ tables_1
theorem lw_privs_ok : ∀ q ∈ lw_privs, lw_okq q := by
  show ∀ q ∈ lw_privs_1 ++ (lw_privs_2 ++ (lw_privs_3)), lw_okq q
  exact List.forall_mem_append.mpr ⟨lw_r1, List.forall_mem_append.mpr ⟨lw_r2, lw_r3⟩⟩
end
section
def RX0 : String := "SuffixRows$Copies"
def TX0 : u_T := fun k => match k with
  | 0 => ("SuffixRows$Copies", "places", "[I", true)
  | 1 => ("SuffixRows$Copies", "lengths", "[I", true)
  | 2 => ("SuffixRows$Copies", "pieces", "[I", true)
  | 3 => ("SuffixRows$Copies", "whole", "LSuffixRows$Whole;", true)
  | 4 => ("SuffixRows$Copies", "row", "LSuffixRows$Row;", true)
  | 5 => ("SuffixRows$Copies", "above", "[I", true)
  | 6 => ("SuffixRows$Copies", "below", "[I", true)
  | _ => ("SuffixRows$Copies", "alike", "[I", true)
def tyX0 : Nat → FieldType := fun k => match k with
  | 0 => .array .int
  | 1 => .array .int
  | 2 => .array .int
  | 3 => .object "SuffixRows$Whole"
  | 4 => .object "SuffixRows$Row"
  | 5 => .array .int
  | 6 => .array .int
  | _ => .array .int
theorem nmX0 : ∀ a, a < 8 → ∀ b, b < 8 → a ≠ b → (TX0 a).2.1 ≠ (TX0 b).2.1 := by decide +kernel
theorem tyX0_ok : ∀ k, k < 8 → parseFieldDescriptor (TX0 k).2.2.1 = some (tyX0 k) := by decide +kernel
abbrev cX0_init : ByteArray := prog_2_method_1_code
def yX0_init : MethodName := ⟨RX0, "<init>", "(LSuffixRows$Whole;LSuffixRows$Row;)V"⟩
abbrev cX0_make : ByteArray := prog_2_method_2_code
def yX0_make : MethodName := ⟨RX0, "make", "()V"⟩
abbrev cX0_chainAll : ByteArray := prog_2_method_3_code
def yX0_chainAll : MethodName := ⟨RX0, "chainAll", "()V"⟩
abbrev cX0_takeLongest : ByteArray := prog_2_method_4_code
def yX0_takeLongest : MethodName := ⟨RX0, "takeLongest", "(I)V"⟩
abbrev cX0_unchain : ByteArray := prog_2_method_5_code
def yX0_unchain : MethodName := ⟨RX0, "unchain", "(I)V"⟩
abbrev cX0_leastLike : ByteArray := prog_2_method_6_code
def yX0_leastLike : MethodName := ⟨RX0, "leastLike", "(I)I"⟩
abbrev cX0_countPieces : ByteArray := prog_2_method_7_code
def yX0_countPieces : MethodName := ⟨RX0, "countPieces", "()V"⟩
def RX1 : String := "SuffixRows$Draft"
def TX1 : u_T := fun k => match k with
  | 0 => ("SuffixRows$Draft", "numbers", "[I", true)
  | 1 => ("SuffixRows$Draft", "whole", "LSuffixRows$Whole;", true)
  | _ => ("SuffixRows$Draft", "row", "LSuffixRows$Row;", true)
def tyX1 : Nat → FieldType := fun k => match k with
  | 0 => .array .int
  | 1 => .object "SuffixRows$Whole"
  | _ => .object "SuffixRows$Row"
theorem nmX1 : ∀ a, a < 3 → ∀ b, b < 3 → a ≠ b → (TX1 a).2.1 ≠ (TX1 b).2.1 := by decide +kernel
theorem tyX1_ok : ∀ k, k < 3 → parseFieldDescriptor (TX1 k).2.2.1 = some (tyX1 k) := by decide +kernel
abbrev cX1_init : ByteArray := prog_3_method_1_code
def yX1_init : MethodName := ⟨RX1, "<init>", "(LSuffixRows$Whole;LSuffixRows$Row;)V"⟩
abbrev cX1_reset : ByteArray := prog_3_method_2_code
def yX1_reset : MethodName := ⟨RX1, "reset", "()V"⟩
abbrev cX1_replace : ByteArray := prog_3_method_3_code
def yX1_replace : MethodName := ⟨RX1, "replace", "(II)I"⟩
abbrev cX1_firstWrong : ByteArray := prog_3_method_4_code
def yX1_firstWrong : MethodName := ⟨RX1, "firstWrong", "()I"⟩
def RX2 : String := "SuffixRows$Pattern"
def TX2 : u_T := fun k => match k with
  | 0 => ("SuffixRows$Pattern", "letters", "[I", true)
  | 1 => ("SuffixRows$Pattern", "whole", "LSuffixRows$Whole;", true)
  | 2 => ("SuffixRows$Pattern", "row", "LSuffixRows$Row;", true)
  | _ => ("SuffixRows$Pattern", "count", "I", false)
def tyX2 : Nat → FieldType := fun k => match k with
  | 0 => .array .int
  | 1 => .object "SuffixRows$Whole"
  | 2 => .object "SuffixRows$Row"
  | _ => .int
theorem nmX2 : ∀ a, a < 4 → ∀ b, b < 4 → a ≠ b → (TX2 a).2.1 ≠ (TX2 b).2.1 := by decide +kernel
theorem tyX2_ok : ∀ k, k < 4 → parseFieldDescriptor (TX2 k).2.2.1 = some (tyX2 k) := by decide +kernel
abbrev cX2_init : ByteArray := prog_4_method_1_code
def yX2_init : MethodName := ⟨RX2, "<init>", "(LSuffixRows$Whole;LSuffixRows$Row;)V"⟩
abbrev cX2_append : ByteArray := prog_4_method_2_code
def yX2_append : MethodName := ⟨RX2, "append", "(I)V"⟩
abbrev cX2_firstReaching : ByteArray := prog_4_method_3_code
def yX2_firstReaching : MethodName := ⟨RX2, "firstReaching", "(I)I"⟩
abbrev cX2_sideOf : ByteArray := prog_4_method_4_code
def yX2_sideOf : MethodName := ⟨RX2, "sideOf", "(I)I"⟩
abbrev cX2_alikeAt : ByteArray := prog_4_method_5_code
def yX2_alikeAt : MethodName := ⟨RX2, "alikeAt", "(I)I"⟩
abbrev cX2_longestBeginning : ByteArray := prog_4_method_6_code
def yX2_longestBeginning : MethodName := ⟨RX2, "longestBeginning", "(I)I"⟩
abbrev cX2_placeOf : ByteArray := prog_4_method_7_code
def yX2_placeOf : MethodName := ⟨RX2, "placeOf", "(I)I"⟩
def RX3 : String := "SuffixRows$Row"
def TX3 : u_T := fun k => match k with
  | 0 => ("SuffixRows$Row", "places", "[I", true)
  | 1 => ("SuffixRows$Row", "ranks", "[I", true)
  | 2 => ("SuffixRows$Row", "besides", "[I", true)
  | 3 => ("SuffixRows$Row", "whole", "LSuffixRows$Whole;", true)
  | _ => ("SuffixRows$Row", "sorter", "LSuffixRows$Sorter;", true)
def tyX3 : Nat → FieldType := fun k => match k with
  | 0 => .array .int
  | 1 => .array .int
  | 2 => .array .int
  | 3 => .object "SuffixRows$Whole"
  | _ => .object "SuffixRows$Sorter"
theorem nmX3 : ∀ a, a < 5 → ∀ b, b < 5 → a ≠ b → (TX3 a).2.1 ≠ (TX3 b).2.1 := by decide +kernel
theorem tyX3_ok : ∀ k, k < 5 → parseFieldDescriptor (TX3 k).2.2.1 = some (tyX3 k) := by decide +kernel
abbrev cX3_init : ByteArray := prog_5_method_1_code
def yX3_init : MethodName := ⟨RX3, "<init>", "(LSuffixRows$Whole;)V"⟩
abbrev cX3_make : ByteArray := prog_5_method_2_code
def yX3_make : MethodName := ⟨RX3, "make", "()V"⟩
abbrev cX3_measureBesides : ByteArray := prog_5_method_3_code
def yX3_measureBesides : MethodName := ⟨RX3, "measureBesides", "()V"⟩
abbrev cX3_countTexts : ByteArray := prog_5_method_4_code
def yX3_countTexts : MethodName := ⟨RX3, "countTexts", "(II)I"⟩
abbrev cX3_leastPlace : ByteArray := prog_5_method_5_code
def yX3_leastPlace : MethodName := ⟨RX3, "leastPlace", "(II)I"⟩
abbrev cX3_greatestPlace : ByteArray := prog_5_method_6_code
def yX3_greatestPlace : MethodName := ⟨RX3, "greatestPlace", "(II)I"⟩
def RX4 : String := "SuffixRows$Sorter"
def TX4 : u_T := fun k => match k with
  | 0 => ("SuffixRows$Sorter", "order", "[I", true)
  | 1 => ("SuffixRows$Sorter", "letters", "[I", true)
  | 2 => ("SuffixRows$Sorter", "rises", "[Z", true)
  | 3 => ("SuffixRows$Sorter", "turns", "[I", true)
  | 4 => ("SuffixRows$Sorter", "bases", "[I", true)
  | 5 => ("SuffixRows$Sorter", "sizes", "[I", true)
  | 6 => ("SuffixRows$Sorter", "kinds", "[I", true)
  | 7 => ("SuffixRows$Sorter", "seeds", "[I", true)
  | 8 => ("SuffixRows$Sorter", "names", "[I", true)
  | 9 => ("SuffixRows$Sorter", "starts", "[I", true)
  | _ => ("SuffixRows$Sorter", "cursors", "[I", true)
def tyX4 : Nat → FieldType := fun k => match k with
  | 0 => .array .int
  | 1 => .array .int
  | 2 => .array .boolean
  | 3 => .array .int
  | 4 => .array .int
  | 5 => .array .int
  | 6 => .array .int
  | 7 => .array .int
  | 8 => .array .int
  | 9 => .array .int
  | _ => .array .int
theorem nmX4 : ∀ a, a < 11 → ∀ b, b < 11 → a ≠ b → (TX4 a).2.1 ≠ (TX4 b).2.1 := by decide +kernel
theorem tyX4_ok : ∀ k, k < 11 → parseFieldDescriptor (TX4 k).2.2.1 = some (tyX4 k) := by decide +kernel
abbrev cX4_init : ByteArray := prog_6_method_1_code
def yX4_init : MethodName := ⟨RX4, "<init>", "()V"⟩
abbrev cX4_sort : ByteArray := prog_6_method_2_code
def yX4_sort : MethodName := ⟨RX4, "sort", "([II)V"⟩
abbrev cX4_makeLevelBelow : ByteArray := prog_6_method_3_code
def yX4_makeLevelBelow : MethodName := ⟨RX4, "makeLevelBelow", "(I)V"⟩
abbrev cX4_markRises : ByteArray := prog_6_method_4_code
def yX4_markRises : MethodName := ⟨RX4, "markRises", "(I)V"⟩
abbrev cX4_collectTurns : ByteArray := prog_6_method_5_code
def yX4_collectTurns : MethodName := ⟨RX4, "collectTurns", "(II)I"⟩
abbrev cX4_isTurn : ByteArray := prog_6_method_6_code
def yX4_isTurn : MethodName := ⟨RX4, "isTurn", "(II)Z"⟩
abbrev cX4_namePieces : ByteArray := prog_6_method_7_code
def yX4_namePieces : MethodName := ⟨RX4, "namePieces", "(I)I"⟩
abbrev cX4_isSamePiece : ByteArray := prog_6_method_8_code
def yX4_isSamePiece : MethodName := ⟨RX4, "isSamePiece", "(III)Z"⟩
abbrev cX4_orderByNames : ByteArray := prog_6_method_9_code
def yX4_orderByNames : MethodName := ⟨RX4, "orderByNames", "(I)V"⟩
abbrev cX4_orderFromBelow : ByteArray := prog_6_method_10_code
def yX4_orderFromBelow : MethodName := ⟨RX4, "orderFromBelow", "(I)V"⟩
abbrev cX4_induce : ByteArray := prog_6_method_11_code
def yX4_induce : MethodName := ⟨RX4, "induce", "(II)V"⟩
abbrev cX4_countLetters : ByteArray := prog_6_method_12_code
def yX4_countLetters : MethodName := ⟨RX4, "countLetters", "(I)V"⟩
abbrev cX4_putSeeds : ByteArray := prog_6_method_13_code
def yX4_putSeeds : MethodName := ⟨RX4, "putSeeds", "(II)V"⟩
abbrev cX4_induceFalling : ByteArray := prog_6_method_14_code
def yX4_induceFalling : MethodName := ⟨RX4, "induceFalling", "(I)V"⟩
abbrev cX4_induceRising : ByteArray := prog_6_method_15_code
def yX4_induceRising : MethodName := ⟨RX4, "induceRising", "(I)V"⟩
abbrev cX4_putFirst : ByteArray := prog_6_method_16_code
def yX4_putFirst : MethodName := ⟨RX4, "putFirst", "(II)V"⟩
abbrev cX4_putLast : ByteArray := prog_6_method_17_code
def yX4_putLast : MethodName := ⟨RX4, "putLast", "(II)V"⟩
def RX5 : String := "SuffixRows$Stretches"
def TX5 : u_T := fun k => match k with
  | 0 => ("SuffixRows$Stretches", "whole", "LSuffixRows$Whole;", true)
  | _ => ("SuffixRows$Stretches", "row", "LSuffixRows$Row;", true)
def tyX5 : Nat → FieldType := fun k => match k with
  | 0 => .object "SuffixRows$Whole"
  | _ => .object "SuffixRows$Row"
theorem nmX5 : ∀ a, a < 2 → ∀ b, b < 2 → a ≠ b → (TX5 a).2.1 ≠ (TX5 b).2.1 := by decide +kernel
theorem tyX5_ok : ∀ k, k < 2 → parseFieldDescriptor (TX5 k).2.2.1 = some (tyX5 k) := by decide +kernel
abbrev cX5_init : ByteArray := prog_7_method_1_code
def yX5_init : MethodName := ⟨RX5, "<init>", "(LSuffixRows$Whole;LSuffixRows$Row;)V"⟩
abbrev cX5_countAll : ByteArray := prog_7_method_2_code
def yX5_countAll : MethodName := ⟨RX5, "countAll", "()J"⟩
abbrev cX5_countStanding : ByteArray := prog_7_method_3_code
def yX5_countStanding : MethodName := ⟨RX5, "countStanding", "(II)I"⟩
abbrev cX5_tellLongest : ByteArray := prog_7_method_4_code
def yX5_tellLongest : MethodName := ⟨RX5, "tellLongest", "(IZI)I"⟩
abbrev cX5_longestLength : ByteArray := prog_7_method_5_code
def yX5_longestLength : MethodName := ⟨RX5, "longestLength", "(IZ)I"⟩
abbrev cX5_firstRunEnd : ByteArray := prog_7_method_6_code
def yX5_firstRunEnd : MethodName := ⟨RX5, "firstRunEnd", "(IIZ)I"⟩
abbrev cX5_runStart : ByteArray := prog_7_method_7_code
def yX5_runStart : MethodName := ⟨RX5, "runStart", "(II)I"⟩
abbrev cX5_isRunEnd : ByteArray := prog_7_method_8_code
def yX5_isRunEnd : MethodName := ⟨RX5, "isRunEnd", "(II)Z"⟩
abbrev cX5_isEnough : ByteArray := prog_7_method_9_code
def yX5_isEnough : MethodName := ⟨RX5, "isEnough", "(IIIIZ)Z"⟩
def RX6 : String := "SuffixRows$Texts"
def TX6 : u_T := fun k => match k with
  | 0 => ("SuffixRows$Texts", "signs", "[I", true)
  | 1 => ("SuffixRows$Texts", "counts", "[I", true)
  | _ => ("SuffixRows$Texts", "total", "I", false)
def tyX6 : Nat → FieldType := fun k => match k with
  | 0 => .array .int
  | 1 => .array .int
  | _ => .int
theorem nmX6 : ∀ a, a < 3 → ∀ b, b < 3 → a ≠ b → (TX6 a).2.1 ≠ (TX6 b).2.1 := by decide +kernel
theorem tyX6_ok : ∀ k, k < 3 → parseFieldDescriptor (TX6 k).2.2.1 = some (tyX6 k) := by decide +kernel
abbrev cX6_init : ByteArray := prog_8_method_1_code
def yX6_init : MethodName := ⟨RX6, "<init>", "()V"⟩
abbrev cX6_endOf : ByteArray := prog_8_method_2_code
def yX6_endOf : MethodName := ⟨RX6, "endOf", "(I)I"⟩
abbrev cX6_append : ByteArray := prog_8_method_3_code
def yX6_append : MethodName := ⟨RX6, "append", "(II)V"⟩
abbrev cX6_dropLast : ByteArray := prog_8_method_4_code
def yX6_dropLast : MethodName := ⟨RX6, "dropLast", "(II)V"⟩
def RX7 : String := "SuffixRows$Whole"
def TX7 : u_T := fun k => match k with
  | 0 => ("SuffixRows$Whole", "letters", "[I", true)
  | 1 => ("SuffixRows$Whole", "textAt", "[I", true)
  | 2 => ("SuffixRows$Whole", "starts", "[I", true)
  | 3 => ("SuffixRows$Whole", "ends", "[I", true)
  | _ => ("SuffixRows$Whole", "size", "I", false)
def tyX7 : Nat → FieldType := fun k => match k with
  | 0 => .array .int
  | 1 => .array .int
  | 2 => .array .int
  | 3 => .array .int
  | _ => .int
theorem nmX7 : ∀ a, a < 5 → ∀ b, b < 5 → a ≠ b → (TX7 a).2.1 ≠ (TX7 b).2.1 := by decide +kernel
theorem tyX7_ok : ∀ k, k < 5 → parseFieldDescriptor (TX7 k).2.2.1 = some (tyX7 k) := by decide +kernel
abbrev cX7_init : ByteArray := prog_9_method_1_code
def yX7_init : MethodName := ⟨RX7, "<init>", "()V"⟩
abbrev cX7_lay : ByteArray := prog_9_method_2_code
def yX7_lay : MethodName := ⟨RX7, "lay", "(LSuffixRows$Texts;)V"⟩
abbrev cX7_layLetter : ByteArray := prog_9_method_3_code
def yX7_layLetter : MethodName := ⟨RX7, "layLetter", "(II)V"⟩
abbrev cX7_has : ByteArray := prog_9_method_4_code
def yX7_has : MethodName := ⟨RX7, "has", "(I)Z"⟩
abbrev cX7_isEnd : ByteArray := prog_9_method_5_code
def yX7_isEnd : MethodName := ⟨RX7, "isEnd", "(I)Z"⟩
abbrev cX7_shown : ByteArray := prog_9_method_6_code
def yX7_shown : MethodName := ⟨RX7, "shown", "(I)I"⟩
abbrev cX7_signsFrom : ByteArray := prog_9_method_7_code
def yX7_signsFrom : MethodName := ⟨RX7, "signsFrom", "(I)I"⟩
abbrev cX7_previous : ByteArray := prog_9_method_8_code
def yX7_previous : MethodName := ⟨RX7, "previous", "(I)I"⟩
abbrev cX7_alikeFrom : ByteArray := prog_9_method_9_code
def yX7_alikeFrom : MethodName := ⟨RX7, "alikeFrom", "(III)I"⟩
def RX8 : String := "SuffixRows"
def TX8 : u_T := fun k => match k with
  | 0 => ("SuffixRows", "texts", "LSuffixRows$Texts;", true)
  | 1 => ("SuffixRows", "whole", "LSuffixRows$Whole;", true)
  | 2 => ("SuffixRows", "row", "LSuffixRows$Row;", true)
  | 3 => ("SuffixRows", "copies", "LSuffixRows$Copies;", true)
  | 4 => ("SuffixRows", "sought", "LSuffixRows$Pattern;", true)
  | 5 => ("SuffixRows", "stretches", "LSuffixRows$Stretches;", true)
  | _ => ("SuffixRows", "draft", "LSuffixRows$Draft;", true)
def tyX8 : Nat → FieldType := fun k => match k with
  | 0 => .object "SuffixRows$Texts"
  | 1 => .object "SuffixRows$Whole"
  | 2 => .object "SuffixRows$Row"
  | 3 => .object "SuffixRows$Copies"
  | 4 => .object "SuffixRows$Pattern"
  | 5 => .object "SuffixRows$Stretches"
  | _ => .object "SuffixRows$Draft"
theorem nmX8 : ∀ a, a < 7 → ∀ b, b < 7 → a ≠ b → (TX8 a).2.1 ≠ (TX8 b).2.1 := by decide +kernel
theorem tyX8_ok : ∀ k, k < 7 → parseFieldDescriptor (TX8 k).2.2.1 = some (tyX8 k) := by decide +kernel
abbrev cX8_init : ByteArray := prog_1_method_1_code
def yX8_init : MethodName := ⟨RX8, "<init>", "()V"⟩
abbrev cX8_add : ByteArray := prog_1_method_2_code
def yX8_add : MethodName := ⟨RX8, "add", "(IIIII)I"⟩
abbrev cX8_cut : ByteArray := prog_1_method_3_code
def yX8_cut : MethodName := ⟨RX8, "cut", "(II)I"⟩
abbrev cX8_build : ByteArray := prog_1_method_4_code
def yX8_build : MethodName := ⟨RX8, "build", "()I"⟩
abbrev cX8_sign : ByteArray := prog_1_method_5_code
def yX8_sign : MethodName := ⟨RX8, "sign", "(I)I"⟩
abbrev cX8_text : ByteArray := prog_1_method_6_code
def yX8_text : MethodName := ⟨RX8, "text", "(II)I"⟩
abbrev cX8_at : ByteArray := prog_1_method_7_code
def yX8_at : MethodName := ⟨RX8, "at", "(I)I"⟩
abbrev cX8_rank : ByteArray := prog_1_method_8_code
def yX8_rank : MethodName := ⟨RX8, "rank", "(I)I"⟩
abbrev cX8_beside : ByteArray := prog_1_method_9_code
def yX8_beside : MethodName := ⟨RX8, "beside", "(I)I"⟩
abbrev cX8_common : ByteArray := prog_1_method_10_code
def yX8_common : MethodName := ⟨RX8, "common", "(II)I"⟩
abbrev cX8_copy : ByteArray := prog_1_method_11_code
def yX8_copy : MethodName := ⟨RX8, "copy", "(II)I"⟩
abbrev cX8_pattern : ByteArray := prog_1_method_12_code
def yX8_pattern : MethodName := ⟨RX8, "pattern", "(IIII)I"⟩
abbrev cX8_wipe : ByteArray := prog_1_method_13_code
def yX8_wipe : MethodName := ⟨RX8, "wipe", "()I"⟩
abbrev cX8_find : ByteArray := prog_1_method_14_code
def yX8_find : MethodName := ⟨RX8, "find", "(I)I"⟩
abbrev cX8_where : ByteArray := prog_1_method_15_code
def yX8_where : MethodName := ⟨RX8, "where", "(I)I"⟩
abbrev cX8_different : ByteArray := prog_1_method_16_code
def yX8_different : MethodName := ⟨RX8, "different", "()J"⟩
abbrev cX8_repeats : ByteArray := prog_1_method_17_code
def yX8_repeats : MethodName := ⟨RX8, "repeats", "(II)I"⟩
abbrev cX8_longest : ByteArray := prog_1_method_18_code
def yX8_longest : MethodName := ⟨RX8, "longest", "(II)I"⟩
abbrev cX8_shared : ByteArray := prog_1_method_19_code
def yX8_shared : MethodName := ⟨RX8, "shared", "(II)I"⟩
abbrev cX8_before : ByteArray := prog_1_method_20_code
def yX8_before : MethodName := ⟨RX8, "before", "(I)I"⟩
abbrev cX8_back : ByteArray := prog_1_method_21_code
def yX8_back : MethodName := ⟨RX8, "back", "(I)I"⟩
abbrev cX8_steps : ByteArray := prog_1_method_22_code
def yX8_steps : MethodName := ⟨RX8, "steps", "(II)I"⟩
abbrev cX8_swap : ByteArray := prog_1_method_23_code
def yX8_swap : MethodName := ⟨RX8, "swap", "(II)I"⟩
abbrev cX8_tell : ByteArray := prog_1_method_24_code
def yX8_tell : MethodName := ⟨RX8, "tell", "(II)I"⟩
abbrev cX8_judge : ByteArray := prog_1_method_25_code
def yX8_judge : MethodName := ⟨RX8, "judge", "()I"⟩
abbrev cX8_isText : ByteArray := prog_1_method_26_code
def yX8_isText : MethodName := ⟨RX8, "isText", "(I)Z"⟩
abbrev cX8_countSigns : ByteArray := prog_1_method_27_code
def yX8_countSigns : MethodName := ⟨RX8, "countSigns", "(IIII)I"⟩
abbrev cX8_isSignOrNone : ByteArray := prog_1_method_28_code
def yX8_isSignOrNone : MethodName := ⟨RX8, "isSignOrNone", "(I)Z"⟩
abbrev cX8_oneIfSign : ByteArray := prog_1_method_29_code
def yX8_oneIfSign : MethodName := ⟨RX8, "oneIfSign", "(I)I"⟩
def RX9 : String := "SuffixRowsModel"
def TX9 : u_T := fun k => match k with
  | 0 => ("SuffixRowsModel", "signs", "[I", true)
  | 1 => ("SuffixRowsModel", "sizes", "[I", true)
  | 2 => ("SuffixRowsModel", "all", "I", false)
  | 3 => ("SuffixRowsModel", "whole", "[I", true)
  | 4 => ("SuffixRowsModel", "textOf", "[I", true)
  | 5 => ("SuffixRowsModel", "begins", "[I", true)
  | 6 => ("SuffixRowsModel", "places", "I", false)
  | 7 => ("SuffixRowsModel", "commons", "[I", true)
  | 8 => ("SuffixRowsModel", "row", "[I", true)
  | 9 => ("SuffixRowsModel", "ranks", "[I", true)
  | 10 => ("SuffixRowsModel", "draft", "[I", true)
  | 11 => ("SuffixRowsModel", "pattern", "[I", true)
  | 12 => ("SuffixRowsModel", "patternSize", "I", false)
  | 13 => ("SuffixRowsModel", "bests", "[I", true)
  | _ => ("SuffixRowsModel", "had", "[Z", true)
def tyX9 : Nat → FieldType := fun k => match k with
  | 0 => .array .int
  | 1 => .array .int
  | 2 => .int
  | 3 => .array .int
  | 4 => .array .int
  | 5 => .array .int
  | 6 => .int
  | 7 => .array .int
  | 8 => .array .int
  | 9 => .array .int
  | 10 => .array .int
  | 11 => .array .int
  | 12 => .int
  | 13 => .array .int
  | _ => .array .boolean
theorem nmX9 : ∀ a, a < 15 → ∀ b, b < 15 → a ≠ b → (TX9 a).2.1 ≠ (TX9 b).2.1 := by decide +kernel
theorem tyX9_ok : ∀ k, k < 15 → parseFieldDescriptor (TX9 k).2.2.1 = some (tyX9 k) := by decide +kernel
abbrev cX9_init : ByteArray := prog_11_method_1_code
def yX9_init : MethodName := ⟨RX9, "<init>", "()V"⟩
abbrev cX9_isText : ByteArray := prog_11_method_2_code
def yX9_isText : MethodName := ⟨RX9, "isText", "(I)Z"⟩
abbrev cX9_isPlace : ByteArray := prog_11_method_3_code
def yX9_isPlace : MethodName := ⟨RX9, "isPlace", "(I)Z"⟩
abbrev cX9_isGiven : ByteArray := prog_11_method_4_code
def yX9_isGiven : MethodName := ⟨RX9, "isGiven", "(I)Z"⟩
abbrev cX9_given : ByteArray := prog_11_method_5_code
def yX9_given : MethodName := ⟨RX9, "given", "(IIII)I"⟩
abbrev cX9_comeTo : ByteArray := prog_11_method_6_code
def yX9_comeTo : MethodName := ⟨RX9, "comeTo", "(II)V"⟩
abbrev cX9_add : ByteArray := prog_11_method_7_code
def yX9_add : MethodName := ⟨RX9, "add", "(IIIII)I"⟩
abbrev cX9_cut : ByteArray := prog_11_method_8_code
def yX9_cut : MethodName := ⟨RX9, "cut", "(II)I"⟩
abbrev cX9_common0 : ByteArray := prog_11_method_9_code
def yX9_common0 : MethodName := ⟨RX9, "common0", "(II)I"⟩
abbrev cX9_toEnd : ByteArray := prog_11_method_10_code
def yX9_toEnd : MethodName := ⟨RX9, "toEnd", "(I)I"⟩
abbrev cX9_isLess : ByteArray := prog_11_method_11_code
def yX9_isLess : MethodName := ⟨RX9, "isLess", "(II)Z"⟩
abbrev cX9_build : ByteArray := prog_11_method_12_code
def yX9_build : MethodName := ⟨RX9, "build", "()I"⟩
abbrev cX9_sign : ByteArray := prog_11_method_13_code
def yX9_sign : MethodName := ⟨RX9, "sign", "(I)I"⟩
abbrev cX9_text : ByteArray := prog_11_method_14_code
def yX9_text : MethodName := ⟨RX9, "text", "(II)I"⟩
abbrev cX9_at : ByteArray := prog_11_method_15_code
def yX9_at : MethodName := ⟨RX9, "at", "(I)I"⟩
abbrev cX9_rank : ByteArray := prog_11_method_16_code
def yX9_rank : MethodName := ⟨RX9, "rank", "(I)I"⟩
abbrev cX9_beside0 : ByteArray := prog_11_method_17_code
def yX9_beside0 : MethodName := ⟨RX9, "beside0", "(I)I"⟩
abbrev cX9_beside : ByteArray := prog_11_method_18_code
def yX9_beside : MethodName := ⟨RX9, "beside", "(I)I"⟩
abbrev cX9_common : ByteArray := prog_11_method_19_code
def yX9_common : MethodName := ⟨RX9, "common", "(II)I"⟩
abbrev cX9_copyOf : ByteArray := prog_11_method_20_code
def yX9_copyOf : MethodName := ⟨RX9, "copyOf", "(I)I"⟩
abbrev cX9_copy : ByteArray := prog_11_method_21_code
def yX9_copy : MethodName := ⟨RX9, "copy", "(II)I"⟩
abbrev cX9_pattern : ByteArray := prog_11_method_22_code
def yX9_pattern : MethodName := ⟨RX9, "pattern", "(IIII)I"⟩
abbrev cX9_wipe : ByteArray := prog_11_method_23_code
def yX9_wipe : MethodName := ⟨RX9, "wipe", "()I"⟩
abbrev cX9_matched : ByteArray := prog_11_method_24_code
def yX9_matched : MethodName := ⟨RX9, "matched", "(I)I"⟩
abbrev cX9_find : ByteArray := prog_11_method_25_code
def yX9_find : MethodName := ⟨RX9, "find", "(I)I"⟩
abbrev cX9_where : ByteArray := prog_11_method_26_code
def yX9_where : MethodName := ⟨RX9, "where", "(I)I"⟩
abbrev cX9_different : ByteArray := prog_11_method_27_code
def yX9_different : MethodName := ⟨RX9, "different", "()J"⟩
abbrev cX9_repeats : ByteArray := prog_11_method_28_code
def yX9_repeats : MethodName := ⟨RX9, "repeats", "(II)I"⟩
abbrev cX9_tellStretch : ByteArray := prog_11_method_29_code
def yX9_tellStretch : MethodName := ⟨RX9, "tellStretch", "(III)I"⟩
abbrev cX9_longest : ByteArray := prog_11_method_30_code
def yX9_longest : MethodName := ⟨RX9, "longest", "(II)I"⟩
abbrev cX9_shared : ByteArray := prog_11_method_31_code
def yX9_shared : MethodName := ⟨RX9, "shared", "(II)I"⟩
abbrev cX9_mth : ByteArray := prog_11_method_32_code
def yX9_mth : MethodName := ⟨RX9, "mth", "(I)I"⟩
abbrev cX9_placeBefore : ByteArray := prog_11_method_33_code
def yX9_placeBefore : MethodName := ⟨RX9, "placeBefore", "(I)I"⟩
abbrev cX9_before : ByteArray := prog_11_method_34_code
def yX9_before : MethodName := ⟨RX9, "before", "(I)I"⟩
abbrev cX9_back : ByteArray := prog_11_method_35_code
def yX9_back : MethodName := ⟨RX9, "back", "(I)I"⟩
abbrev cX9_steps : ByteArray := prog_11_method_36_code
def yX9_steps : MethodName := ⟨RX9, "steps", "(II)I"⟩
abbrev cX9_swap : ByteArray := prog_11_method_37_code
def yX9_swap : MethodName := ⟨RX9, "swap", "(II)I"⟩
abbrev cX9_tell : ByteArray := prog_11_method_38_code
def yX9_tell : MethodName := ⟨RX9, "tell", "(II)I"⟩
abbrev cX9_judge : ByteArray := prog_11_method_39_code
def yX9_judge : MethodName := ⟨RX9, "judge", "()I"⟩
def RJ6 : String := "java/lang/Integer"
def TJ6 : u_T := fun k => match k with
  | _ => ("", "", "", false)
def tyJ6 : Nat → FieldType := fun k => match k with
  | _ => .int
theorem nmJ6 : ∀ a, a < 0 → ∀ b, b < 0 → a ≠ b → (TJ6 a).2.1 ≠ (TJ6 b).2.1 := by decide +kernel
theorem tyJ6_ok : ∀ k, k < 0 → parseFieldDescriptor (TJ6 k).2.2.1 = some (tyJ6 k) := by decide +kernel
abbrev cJ6_bitCount_0f7a4 : ByteArray := prog_12_method_49_code
def yJ6_bitCount_0f7a4 : MethodName := ⟨RJ6, "bitCount", "(I)I"⟩
def RJ9 : String := "java/lang/Math"
def TJ9 : u_T := fun k => match k with
  | _ => ("", "", "", false)
def tyJ9 : Nat → FieldType := fun k => match k with
  | _ => .int
theorem nmJ9 : ∀ a, a < 0 → ∀ b, b < 0 → a ≠ b → (TJ9 a).2.1 ≠ (TJ9 b).2.1 := by decide +kernel
theorem tyJ9_ok : ∀ k, k < 0 → parseFieldDescriptor (TJ9 k).2.2.1 = some (tyJ9 k) := by decide +kernel
abbrev cJ9_max_7cf53 : ByteArray := prog_13_method_65_code
def yJ9_max_7cf53 : MethodName := ⟨RJ9, "max", "(II)I"⟩
abbrev cJ9_min_7cf53 : ByteArray := prog_13_method_69_code
def yJ9_min_7cf53 : MethodName := ⟨RJ9, "min", "(II)I"⟩
def RJ10 : String := "java/lang/System"
def TJ10 : u_T := fun k => match k with
  | _ => ("", "", "", false)
def tyJ10 : Nat → FieldType := fun k => match k with
  | _ => .int
theorem nmJ10 : ∀ a, a < 0 → ∀ b, b < 0 → a ≠ b → (TJ10 a).2.1 ≠ (TJ10 b).2.1 := by decide +kernel
theorem tyJ10_ok : ∀ k, k < 0 → parseFieldDescriptor (TJ10 k).2.2.1 = some (tyJ10 k) := by decide +kernel
def RJ7 : String := "java/util/Arrays"
def TJ7 : u_T := fun k => match k with
  | _ => ("", "", "", false)
def tyJ7 : Nat → FieldType := fun k => match k with
  | _ => .int
theorem nmJ7 : ∀ a, a < 0 → ∀ b, b < 0 → a ≠ b → (TJ7 a).2.1 ≠ (TJ7 b).2.1 := by decide +kernel
theorem tyJ7_ok : ∀ k, k < 0 → parseFieldDescriptor (TJ7 k).2.2.1 = some (tyJ7 k) := by decide +kernel
abbrev cJ7_rangeCheck_23922 : ByteArray := prog_15_method_30_code
def yJ7_rangeCheck_23922 : MethodName := ⟨RJ7, "rangeCheck", "(III)V"⟩
abbrev cJ7_fill_fda19 : ByteArray := prog_15_method_104_code
def yJ7_fill_fda19 : MethodName := ⟨RJ7, "fill", "([IIII)V"⟩
def RL : String := "SuffixRowsLaw"
abbrev cL_law : ByteArray := code
def yL_law : MethodName := ⟨RL, "law", "([I)Z"⟩
abbrev vwCl : List vw_C := [(RX0, TX0, 8), (RX1, TX1, 3), (RX2, TX2, 4), (RX3, TX3, 5), (RX4, TX4, 11), (RX5, TX5, 2), (RX6, TX6, 3), (RX7, TX7, 5), (RX8, TX8, 7), (RX9, TX9, 15)]
end
section
theorem dX0_init_0 : decode cX0_init 0 = .ok (.aload_n 0, 1) := by decide +kernel
theorem dX0_init_1 : decode cX0_init 1 = .ok (.invokespecial 3, 3) := by decide +kernel
theorem dX0_init_4 : decode cX0_init 4 = .ok (.aload_n 0, 1) := by decide +kernel
theorem dX0_init_5 : decode cX0_init 5 = .ok (.sipush 408, 3) := by decide +kernel
theorem dX0_init_8 : decode cX0_init 8 = .ok (.newarray .int, 2) := by decide +kernel
theorem dX0_init_10 : decode cX0_init 10 = .ok (.putfield 9, 3) := by decide +kernel
theorem dX0_init_13 : decode cX0_init 13 = .ok (.aload_n 0, 1) := by decide +kernel
theorem dX0_init_14 : decode cX0_init 14 = .ok (.sipush 408, 3) := by decide +kernel
theorem dX0_init_17 : decode cX0_init 17 = .ok (.newarray .int, 2) := by decide +kernel
theorem dX0_init_19 : decode cX0_init 19 = .ok (.putfield 15, 3) := by decide +kernel
theorem dX0_init_22 : decode cX0_init 22 = .ok (.aload_n 0, 1) := by decide +kernel
theorem dX0_init_23 : decode cX0_init 23 = .ok (.sipush 408, 3) := by decide +kernel
theorem dX0_init_26 : decode cX0_init 26 = .ok (.newarray .int, 2) := by decide +kernel
theorem dX0_init_28 : decode cX0_init 28 = .ok (.putfield 18, 3) := by decide +kernel
theorem dX0_init_31 : decode cX0_init 31 = .ok (.aload_n 0, 1) := by decide +kernel
theorem dX0_init_32 : decode cX0_init 32 = .ok (.sipush 408, 3) := by decide +kernel
theorem dX0_init_35 : decode cX0_init 35 = .ok (.newarray .int, 2) := by decide +kernel
theorem dX0_init_37 : decode cX0_init 37 = .ok (.putfield 21, 3) := by decide +kernel
theorem dX0_init_40 : decode cX0_init 40 = .ok (.aload_n 0, 1) := by decide +kernel
theorem dX0_init_41 : decode cX0_init 41 = .ok (.sipush 408, 3) := by decide +kernel
theorem dX0_init_44 : decode cX0_init 44 = .ok (.newarray .int, 2) := by decide +kernel
theorem dX0_init_46 : decode cX0_init 46 = .ok (.putfield 24, 3) := by decide +kernel
theorem dX0_init_49 : decode cX0_init 49 = .ok (.aload_n 0, 1) := by decide +kernel
theorem dX0_init_50 : decode cX0_init 50 = .ok (.sipush 408, 3) := by decide +kernel
theorem dX0_init_53 : decode cX0_init 53 = .ok (.newarray .int, 2) := by decide +kernel
theorem dX0_init_55 : decode cX0_init 55 = .ok (.putfield 27, 3) := by decide +kernel
theorem dX0_init_58 : decode cX0_init 58 = .ok (.aload_n 0, 1) := by decide +kernel
theorem dX0_init_59 : decode cX0_init 59 = .ok (.aload_n 1, 1) := by decide +kernel
theorem dX0_init_60 : decode cX0_init 60 = .ok (.putfield 30, 3) := by decide +kernel
theorem dX0_init_63 : decode cX0_init 63 = .ok (.aload_n 0, 1) := by decide +kernel
theorem dX0_init_64 : decode cX0_init 64 = .ok (.aload_n 2, 1) := by decide +kernel
theorem dX0_init_65 : decode cX0_init 65 = .ok (.putfield 34, 3) := by decide +kernel
theorem dX0_init_68 : decode cX0_init 68 = .ok (.return_, 1) := by decide +kernel
theorem dX0_make_0 : decode cX0_make 0 = .ok (.aload_n 0, 1) := by decide +kernel
theorem dX0_make_1 : decode cX0_make 1 = .ok (.invokevirtual 38, 3) := by decide +kernel
theorem dX0_make_4 : decode cX0_make 4 = .ok (.aload_n 0, 1) := by decide +kernel
theorem dX0_make_5 : decode cX0_make 5 = .ok (.getfield 30, 3) := by decide +kernel
theorem dX0_make_8 : decode cX0_make 8 = .ok (.getfield 41, 3) := by decide +kernel
theorem dX0_make_11 : decode cX0_make 11 = .ok (.iconst 1, 1) := by decide +kernel
theorem dX0_make_12 : decode cX0_make 12 = .ok (.isub, 1) := by decide +kernel
theorem dX0_make_13 : decode cX0_make 13 = .ok (.istore_n 1, 1) := by decide +kernel
theorem dX0_make_14 : decode cX0_make 14 = .ok (.iload_n 1, 1) := by decide +kernel
theorem dX0_make_15 : decode cX0_make 15 = .ok (.ifCond .lt 27, 3) := by decide +kernel
theorem dX0_make_18 : decode cX0_make 18 = .ok (.aload_n 0, 1) := by decide +kernel
theorem dX0_make_19 : decode cX0_make 19 = .ok (.iload_n 1, 1) := by decide +kernel
theorem dX0_make_20 : decode cX0_make 20 = .ok (.invokevirtual 47, 3) := by decide +kernel
theorem dX0_make_23 : decode cX0_make 23 = .ok (.aload_n 0, 1) := by decide +kernel
theorem dX0_make_24 : decode cX0_make 24 = .ok (.aload_n 0, 1) := by decide +kernel
theorem dX0_make_25 : decode cX0_make 25 = .ok (.getfield 34, 3) := by decide +kernel
theorem dX0_make_28 : decode cX0_make 28 = .ok (.getfield 51, 3) := by decide +kernel
theorem dX0_make_31 : decode cX0_make 31 = .ok (.iload_n 1, 1) := by decide +kernel
theorem dX0_make_32 : decode cX0_make 32 = .ok (.iaload, 1) := by decide +kernel
theorem dX0_make_33 : decode cX0_make 33 = .ok (.invokevirtual 56, 3) := by decide +kernel
theorem dX0_make_36 : decode cX0_make 36 = .ok (.iinc 1 (-1), 3) := by decide +kernel
theorem dX0_make_39 : decode cX0_make 39 = .ok (.goto (-25), 3) := by decide +kernel
theorem dX0_make_42 : decode cX0_make 42 = .ok (.iconst 0, 1) := by decide +kernel
theorem dX0_make_43 : decode cX0_make 43 = .ok (.istore_n 1, 1) := by decide +kernel
theorem dX0_make_44 : decode cX0_make 44 = .ok (.iload_n 1, 1) := by decide +kernel
theorem dX0_make_45 : decode cX0_make 45 = .ok (.aload_n 0, 1) := by decide +kernel
theorem dX0_make_46 : decode cX0_make 46 = .ok (.getfield 30, 3) := by decide +kernel
theorem dX0_make_49 : decode cX0_make 49 = .ok (.getfield 41, 3) := by decide +kernel
theorem dX0_make_52 : decode cX0_make 52 = .ok (.if_icmp .ge 20, 3) := by decide +kernel
theorem dX0_make_55 : decode cX0_make 55 = .ok (.aload_n 0, 1) := by decide +kernel
theorem dX0_make_56 : decode cX0_make 56 = .ok (.getfield 9, 3) := by decide +kernel
theorem dX0_make_59 : decode cX0_make 59 = .ok (.iload_n 1, 1) := by decide +kernel
theorem dX0_make_60 : decode cX0_make 60 = .ok (.aload_n 0, 1) := by decide +kernel
theorem dX0_make_61 : decode cX0_make 61 = .ok (.iload_n 1, 1) := by decide +kernel
theorem dX0_make_62 : decode cX0_make 62 = .ok (.invokevirtual 59, 3) := by decide +kernel
theorem dX0_make_65 : decode cX0_make 65 = .ok (.iastore, 1) := by decide +kernel
theorem dX0_make_66 : decode cX0_make 66 = .ok (.iinc 1 1, 3) := by decide +kernel
theorem dX0_make_69 : decode cX0_make 69 = .ok (.goto (-25), 3) := by decide +kernel
theorem dX0_make_72 : decode cX0_make 72 = .ok (.aload_n 0, 1) := by decide +kernel
theorem dX0_make_73 : decode cX0_make 73 = .ok (.invokevirtual 63, 3) := by decide +kernel
theorem dX0_make_76 : decode cX0_make 76 = .ok (.return_, 1) := by decide +kernel
theorem dX0_chainAll_0 : decode cX0_chainAll 0 = .ok (.iconst 0, 1) := by decide +kernel
theorem dX0_chainAll_1 : decode cX0_chainAll 1 = .ok (.istore_n 1, 1) := by decide +kernel
theorem dX0_chainAll_2 : decode cX0_chainAll 2 = .ok (.iload_n 1, 1) := by decide +kernel
theorem dX0_chainAll_3 : decode cX0_chainAll 3 = .ok (.aload_n 0, 1) := by decide +kernel
theorem dX0_chainAll_4 : decode cX0_chainAll 4 = .ok (.getfield 30, 3) := by decide +kernel
theorem dX0_chainAll_7 : decode cX0_chainAll 7 = .ok (.getfield 41, 3) := by decide +kernel
theorem dX0_chainAll_10 : decode cX0_chainAll 10 = .ok (.if_icmp .ge 59, 3) := by decide +kernel
theorem dX0_chainAll_13 : decode cX0_chainAll 13 = .ok (.aload_n 0, 1) := by decide +kernel
theorem dX0_chainAll_14 : decode cX0_chainAll 14 = .ok (.getfield 21, 3) := by decide +kernel
theorem dX0_chainAll_17 : decode cX0_chainAll 17 = .ok (.iload_n 1, 1) := by decide +kernel
theorem dX0_chainAll_18 : decode cX0_chainAll 18 = .ok (.iload_n 1, 1) := by decide +kernel
theorem dX0_chainAll_19 : decode cX0_chainAll 19 = .ok (.iconst 1, 1) := by decide +kernel
theorem dX0_chainAll_20 : decode cX0_chainAll 20 = .ok (.isub, 1) := by decide +kernel
theorem dX0_chainAll_21 : decode cX0_chainAll 21 = .ok (.iastore, 1) := by decide +kernel
theorem dX0_chainAll_22 : decode cX0_chainAll 22 = .ok (.aload_n 0, 1) := by decide +kernel
theorem dX0_chainAll_23 : decode cX0_chainAll 23 = .ok (.getfield 24, 3) := by decide +kernel
theorem dX0_chainAll_26 : decode cX0_chainAll 26 = .ok (.iload_n 1, 1) := by decide +kernel
theorem dX0_chainAll_27 : decode cX0_chainAll 27 = .ok (.iload_n 1, 1) := by decide +kernel
theorem dX0_chainAll_28 : decode cX0_chainAll 28 = .ok (.iconst 1, 1) := by decide +kernel
theorem dX0_chainAll_29 : decode cX0_chainAll 29 = .ok (.iadd, 1) := by decide +kernel
theorem dX0_chainAll_30 : decode cX0_chainAll 30 = .ok (.aload_n 0, 1) := by decide +kernel
theorem dX0_chainAll_31 : decode cX0_chainAll 31 = .ok (.getfield 30, 3) := by decide +kernel
theorem dX0_chainAll_34 : decode cX0_chainAll 34 = .ok (.getfield 41, 3) := by decide +kernel
theorem dX0_chainAll_37 : decode cX0_chainAll 37 = .ok (.if_icmp .ge 9, 3) := by decide +kernel
theorem dX0_chainAll_40 : decode cX0_chainAll 40 = .ok (.iload_n 1, 1) := by decide +kernel
theorem dX0_chainAll_41 : decode cX0_chainAll 41 = .ok (.iconst 1, 1) := by decide +kernel
theorem dX0_chainAll_42 : decode cX0_chainAll 42 = .ok (.iadd, 1) := by decide +kernel
theorem dX0_chainAll_43 : decode cX0_chainAll 43 = .ok (.goto 4, 3) := by decide +kernel
theorem dX0_chainAll_46 : decode cX0_chainAll 46 = .ok (.iconst (-1), 1) := by decide +kernel
theorem dX0_chainAll_47 : decode cX0_chainAll 47 = .ok (.iastore, 1) := by decide +kernel
theorem dX0_chainAll_48 : decode cX0_chainAll 48 = .ok (.aload_n 0, 1) := by decide +kernel
theorem dX0_chainAll_49 : decode cX0_chainAll 49 = .ok (.getfield 27, 3) := by decide +kernel
theorem dX0_chainAll_52 : decode cX0_chainAll 52 = .ok (.iload_n 1, 1) := by decide +kernel
theorem dX0_chainAll_53 : decode cX0_chainAll 53 = .ok (.aload_n 0, 1) := by decide +kernel
theorem dX0_chainAll_54 : decode cX0_chainAll 54 = .ok (.getfield 34, 3) := by decide +kernel
theorem dX0_chainAll_57 : decode cX0_chainAll 57 = .ok (.getfield 66, 3) := by decide +kernel
theorem dX0_chainAll_60 : decode cX0_chainAll 60 = .ok (.iload_n 1, 1) := by decide +kernel
theorem dX0_chainAll_61 : decode cX0_chainAll 61 = .ok (.iaload, 1) := by decide +kernel
theorem dX0_chainAll_62 : decode cX0_chainAll 62 = .ok (.iastore, 1) := by decide +kernel
theorem dX0_chainAll_63 : decode cX0_chainAll 63 = .ok (.iinc 1 1, 3) := by decide +kernel
theorem dX0_chainAll_66 : decode cX0_chainAll 66 = .ok (.goto (-64), 3) := by decide +kernel
theorem dX0_chainAll_69 : decode cX0_chainAll 69 = .ok (.return_, 1) := by decide +kernel
theorem dX0_takeLongest_0 : decode cX0_takeLongest 0 = .ok (.aload_n 0, 1) := by decide +kernel
theorem dX0_takeLongest_1 : decode cX0_takeLongest 1 = .ok (.getfield 34, 3) := by decide +kernel
theorem dX0_takeLongest_4 : decode cX0_takeLongest 4 = .ok (.getfield 51, 3) := by decide +kernel
theorem dX0_takeLongest_7 : decode cX0_takeLongest 7 = .ok (.iload_n 1, 1) := by decide +kernel
theorem dX0_takeLongest_8 : decode cX0_takeLongest 8 = .ok (.iaload, 1) := by decide +kernel
theorem dX0_takeLongest_9 : decode cX0_takeLongest 9 = .ok (.istore_n 2, 1) := by decide +kernel
theorem dX0_takeLongest_10 : decode cX0_takeLongest 10 = .ok (.aload_n 0, 1) := by decide +kernel
theorem dX0_takeLongest_11 : decode cX0_takeLongest 11 = .ok (.getfield 21, 3) := by decide +kernel
theorem dX0_takeLongest_14 : decode cX0_takeLongest 14 = .ok (.iload_n 2, 1) := by decide +kernel
theorem dX0_takeLongest_15 : decode cX0_takeLongest 15 = .ok (.iaload, 1) := by decide +kernel
theorem dX0_takeLongest_16 : decode cX0_takeLongest 16 = .ok (.iconst (-1), 1) := by decide +kernel
theorem dX0_takeLongest_17 : decode cX0_takeLongest 17 = .ok (.if_icmp .ne 7, 3) := by decide +kernel
theorem dX0_takeLongest_20 : decode cX0_takeLongest 20 = .ok (.iconst 0, 1) := by decide +kernel
theorem dX0_takeLongest_21 : decode cX0_takeLongest 21 = .ok (.goto 9, 3) := by decide +kernel
theorem dX0_takeLongest_24 : decode cX0_takeLongest 24 = .ok (.aload_n 0, 1) := by decide +kernel
theorem dX0_takeLongest_25 : decode cX0_takeLongest 25 = .ok (.getfield 27, 3) := by decide +kernel
theorem dX0_takeLongest_28 : decode cX0_takeLongest 28 = .ok (.iload_n 2, 1) := by decide +kernel
theorem dX0_takeLongest_29 : decode cX0_takeLongest 29 = .ok (.iaload, 1) := by decide +kernel
theorem dX0_takeLongest_30 : decode cX0_takeLongest 30 = .ok (.istore_n 3, 1) := by decide +kernel
theorem dX0_takeLongest_31 : decode cX0_takeLongest 31 = .ok (.aload_n 0, 1) := by decide +kernel
theorem dX0_takeLongest_32 : decode cX0_takeLongest 32 = .ok (.getfield 24, 3) := by decide +kernel
theorem dX0_takeLongest_35 : decode cX0_takeLongest 35 = .ok (.iload_n 2, 1) := by decide +kernel
theorem dX0_takeLongest_36 : decode cX0_takeLongest 36 = .ok (.iaload, 1) := by decide +kernel
theorem dX0_takeLongest_37 : decode cX0_takeLongest 37 = .ok (.iconst (-1), 1) := by decide +kernel
theorem dX0_takeLongest_38 : decode cX0_takeLongest 38 = .ok (.if_icmp .ne 7, 3) := by decide +kernel
theorem dX0_takeLongest_41 : decode cX0_takeLongest 41 = .ok (.iconst 0, 1) := by decide +kernel
theorem dX0_takeLongest_42 : decode cX0_takeLongest 42 = .ok (.goto 14, 3) := by decide +kernel
theorem dX0_takeLongest_45 : decode cX0_takeLongest 45 = .ok (.aload_n 0, 1) := by decide +kernel
theorem dX0_takeLongest_46 : decode cX0_takeLongest 46 = .ok (.getfield 27, 3) := by decide +kernel
theorem dX0_takeLongest_49 : decode cX0_takeLongest 49 = .ok (.aload_n 0, 1) := by decide +kernel
theorem dX0_takeLongest_50 : decode cX0_takeLongest 50 = .ok (.getfield 24, 3) := by decide +kernel
theorem dX0_takeLongest_53 : decode cX0_takeLongest 53 = .ok (.iload_n 2, 1) := by decide +kernel
theorem dX0_takeLongest_54 : decode cX0_takeLongest 54 = .ok (.iaload, 1) := by decide +kernel
theorem dX0_takeLongest_55 : decode cX0_takeLongest 55 = .ok (.iaload, 1) := by decide +kernel
theorem dX0_takeLongest_56 : decode cX0_takeLongest 56 = .ok (.istore 4, 2) := by decide +kernel
theorem dX0_takeLongest_58 : decode cX0_takeLongest 58 = .ok (.aload_n 0, 1) := by decide +kernel
theorem dX0_takeLongest_59 : decode cX0_takeLongest 59 = .ok (.getfield 15, 3) := by decide +kernel
theorem dX0_takeLongest_62 : decode cX0_takeLongest 62 = .ok (.iload_n 1, 1) := by decide +kernel
theorem dX0_takeLongest_63 : decode cX0_takeLongest 63 = .ok (.iload_n 3, 1) := by decide +kernel
theorem dX0_takeLongest_64 : decode cX0_takeLongest 64 = .ok (.iload 4, 2) := by decide +kernel
theorem dX0_takeLongest_66 : decode cX0_takeLongest 66 = .ok (.invokestatic 69, 3) := by decide +kernel
theorem dX0_takeLongest_69 : decode cX0_takeLongest 69 = .ok (.iastore, 1) := by decide +kernel
theorem dX0_takeLongest_70 : decode cX0_takeLongest 70 = .ok (.aload_n 0, 1) := by decide +kernel
theorem dX0_takeLongest_71 : decode cX0_takeLongest 71 = .ok (.getfield 15, 3) := by decide +kernel
theorem dX0_takeLongest_74 : decode cX0_takeLongest 74 = .ok (.iload_n 1, 1) := by decide +kernel
theorem dX0_takeLongest_75 : decode cX0_takeLongest 75 = .ok (.iaload, 1) := by decide +kernel
theorem dX0_takeLongest_76 : decode cX0_takeLongest 76 = .ok (.ifCond .ne 13, 3) := by decide +kernel
theorem dX0_takeLongest_79 : decode cX0_takeLongest 79 = .ok (.aload_n 0, 1) := by decide +kernel
theorem dX0_takeLongest_80 : decode cX0_takeLongest 80 = .ok (.getfield 9, 3) := by decide +kernel
theorem dX0_takeLongest_83 : decode cX0_takeLongest 83 = .ok (.iload_n 1, 1) := by decide +kernel
theorem dX0_takeLongest_84 : decode cX0_takeLongest 84 = .ok (.iconst (-1), 1) := by decide +kernel
theorem dX0_takeLongest_85 : decode cX0_takeLongest 85 = .ok (.iastore, 1) := by decide +kernel
theorem dX0_takeLongest_86 : decode cX0_takeLongest 86 = .ok (.goto 38, 3) := by decide +kernel
theorem dX0_takeLongest_89 : decode cX0_takeLongest 89 = .ok (.aload_n 0, 1) := by decide +kernel
theorem dX0_takeLongest_90 : decode cX0_takeLongest 90 = .ok (.getfield 9, 3) := by decide +kernel
theorem dX0_takeLongest_93 : decode cX0_takeLongest 93 = .ok (.iload_n 1, 1) := by decide +kernel
theorem dX0_takeLongest_94 : decode cX0_takeLongest 94 = .ok (.aload_n 0, 1) := by decide +kernel
theorem dX0_takeLongest_95 : decode cX0_takeLongest 95 = .ok (.getfield 34, 3) := by decide +kernel
theorem dX0_takeLongest_98 : decode cX0_takeLongest 98 = .ok (.getfield 75, 3) := by decide +kernel
theorem dX0_takeLongest_101 : decode cX0_takeLongest 101 = .ok (.iload_n 3, 1) := by decide +kernel
theorem dX0_takeLongest_102 : decode cX0_takeLongest 102 = .ok (.iload 4, 2) := by decide +kernel
theorem dX0_takeLongest_104 : decode cX0_takeLongest 104 = .ok (.if_icmp .lt 12, 3) := by decide +kernel
theorem dX0_takeLongest_107 : decode cX0_takeLongest 107 = .ok (.aload_n 0, 1) := by decide +kernel
theorem dX0_takeLongest_108 : decode cX0_takeLongest 108 = .ok (.getfield 21, 3) := by decide +kernel
theorem dX0_takeLongest_111 : decode cX0_takeLongest 111 = .ok (.iload_n 2, 1) := by decide +kernel
theorem dX0_takeLongest_112 : decode cX0_takeLongest 112 = .ok (.iaload, 1) := by decide +kernel
theorem dX0_takeLongest_113 : decode cX0_takeLongest 113 = .ok (.goto 9, 3) := by decide +kernel
theorem dX0_takeLongest_116 : decode cX0_takeLongest 116 = .ok (.aload_n 0, 1) := by decide +kernel
theorem dX0_takeLongest_117 : decode cX0_takeLongest 117 = .ok (.getfield 24, 3) := by decide +kernel
theorem dX0_takeLongest_120 : decode cX0_takeLongest 120 = .ok (.iload_n 2, 1) := by decide +kernel
theorem dX0_takeLongest_121 : decode cX0_takeLongest 121 = .ok (.iaload, 1) := by decide +kernel
theorem dX0_takeLongest_122 : decode cX0_takeLongest 122 = .ok (.iaload, 1) := by decide +kernel
theorem dX0_takeLongest_123 : decode cX0_takeLongest 123 = .ok (.iastore, 1) := by decide +kernel
theorem dX0_takeLongest_124 : decode cX0_takeLongest 124 = .ok (.return_, 1) := by decide +kernel
theorem dX0_unchain_0 : decode cX0_unchain 0 = .ok (.aload_n 0, 1) := by decide +kernel
theorem dX0_unchain_1 : decode cX0_unchain 1 = .ok (.getfield 21, 3) := by decide +kernel
theorem dX0_unchain_4 : decode cX0_unchain 4 = .ok (.iload_n 1, 1) := by decide +kernel
theorem dX0_unchain_5 : decode cX0_unchain 5 = .ok (.iaload, 1) := by decide +kernel
theorem dX0_unchain_6 : decode cX0_unchain 6 = .ok (.iconst (-1), 1) := by decide +kernel
theorem dX0_unchain_7 : decode cX0_unchain 7 = .ok (.if_icmp .eq 20, 3) := by decide +kernel
theorem dX0_unchain_10 : decode cX0_unchain 10 = .ok (.aload_n 0, 1) := by decide +kernel
theorem dX0_unchain_11 : decode cX0_unchain 11 = .ok (.getfield 24, 3) := by decide +kernel
theorem dX0_unchain_14 : decode cX0_unchain 14 = .ok (.aload_n 0, 1) := by decide +kernel
theorem dX0_unchain_15 : decode cX0_unchain 15 = .ok (.getfield 21, 3) := by decide +kernel
theorem dX0_unchain_18 : decode cX0_unchain 18 = .ok (.iload_n 1, 1) := by decide +kernel
theorem dX0_unchain_19 : decode cX0_unchain 19 = .ok (.iaload, 1) := by decide +kernel
theorem dX0_unchain_20 : decode cX0_unchain 20 = .ok (.aload_n 0, 1) := by decide +kernel
theorem dX0_unchain_21 : decode cX0_unchain 21 = .ok (.getfield 24, 3) := by decide +kernel
theorem dX0_unchain_24 : decode cX0_unchain 24 = .ok (.iload_n 1, 1) := by decide +kernel
theorem dX0_unchain_25 : decode cX0_unchain 25 = .ok (.iaload, 1) := by decide +kernel
theorem dX0_unchain_26 : decode cX0_unchain 26 = .ok (.iastore, 1) := by decide +kernel
theorem dX0_unchain_27 : decode cX0_unchain 27 = .ok (.aload_n 0, 1) := by decide +kernel
theorem dX0_unchain_28 : decode cX0_unchain 28 = .ok (.getfield 24, 3) := by decide +kernel
theorem dX0_unchain_31 : decode cX0_unchain 31 = .ok (.iload_n 1, 1) := by decide +kernel
theorem dX0_unchain_32 : decode cX0_unchain 32 = .ok (.iaload, 1) := by decide +kernel
theorem dX0_unchain_33 : decode cX0_unchain 33 = .ok (.iconst (-1), 1) := by decide +kernel
theorem dX0_unchain_34 : decode cX0_unchain 34 = .ok (.if_icmp .eq 51, 3) := by decide +kernel
theorem dX0_unchain_37 : decode cX0_unchain 37 = .ok (.aload_n 0, 1) := by decide +kernel
theorem dX0_unchain_38 : decode cX0_unchain 38 = .ok (.getfield 21, 3) := by decide +kernel
theorem dX0_unchain_41 : decode cX0_unchain 41 = .ok (.aload_n 0, 1) := by decide +kernel
theorem dX0_unchain_42 : decode cX0_unchain 42 = .ok (.getfield 24, 3) := by decide +kernel
theorem dX0_unchain_45 : decode cX0_unchain 45 = .ok (.iload_n 1, 1) := by decide +kernel
theorem dX0_unchain_46 : decode cX0_unchain 46 = .ok (.iaload, 1) := by decide +kernel
theorem dX0_unchain_47 : decode cX0_unchain 47 = .ok (.aload_n 0, 1) := by decide +kernel
theorem dX0_unchain_48 : decode cX0_unchain 48 = .ok (.getfield 21, 3) := by decide +kernel
theorem dX0_unchain_51 : decode cX0_unchain 51 = .ok (.iload_n 1, 1) := by decide +kernel
theorem dX0_unchain_52 : decode cX0_unchain 52 = .ok (.iaload, 1) := by decide +kernel
theorem dX0_unchain_53 : decode cX0_unchain 53 = .ok (.iastore, 1) := by decide +kernel
theorem dX0_unchain_54 : decode cX0_unchain 54 = .ok (.aload_n 0, 1) := by decide +kernel
theorem dX0_unchain_55 : decode cX0_unchain 55 = .ok (.getfield 27, 3) := by decide +kernel
theorem dX0_unchain_58 : decode cX0_unchain 58 = .ok (.aload_n 0, 1) := by decide +kernel
theorem dX0_unchain_59 : decode cX0_unchain 59 = .ok (.getfield 24, 3) := by decide +kernel
theorem dX0_unchain_62 : decode cX0_unchain 62 = .ok (.iload_n 1, 1) := by decide +kernel
theorem dX0_unchain_63 : decode cX0_unchain 63 = .ok (.iaload, 1) := by decide +kernel
theorem dX0_unchain_64 : decode cX0_unchain 64 = .ok (.aload_n 0, 1) := by decide +kernel
theorem dX0_unchain_65 : decode cX0_unchain 65 = .ok (.getfield 27, 3) := by decide +kernel
theorem dX0_unchain_68 : decode cX0_unchain 68 = .ok (.iload_n 1, 1) := by decide +kernel
theorem dX0_unchain_69 : decode cX0_unchain 69 = .ok (.iaload, 1) := by decide +kernel
theorem dX0_unchain_70 : decode cX0_unchain 70 = .ok (.aload_n 0, 1) := by decide +kernel
theorem dX0_unchain_71 : decode cX0_unchain 71 = .ok (.getfield 27, 3) := by decide +kernel
theorem dX0_unchain_74 : decode cX0_unchain 74 = .ok (.aload_n 0, 1) := by decide +kernel
theorem dX0_unchain_75 : decode cX0_unchain 75 = .ok (.getfield 24, 3) := by decide +kernel
theorem dX0_unchain_78 : decode cX0_unchain 78 = .ok (.iload_n 1, 1) := by decide +kernel
theorem dX0_unchain_79 : decode cX0_unchain 79 = .ok (.iaload, 1) := by decide +kernel
theorem dX0_unchain_80 : decode cX0_unchain 80 = .ok (.iaload, 1) := by decide +kernel
theorem dX0_unchain_81 : decode cX0_unchain 81 = .ok (.invokestatic 76, 3) := by decide +kernel
theorem dX0_unchain_84 : decode cX0_unchain 84 = .ok (.iastore, 1) := by decide +kernel
theorem dX0_unchain_85 : decode cX0_unchain 85 = .ok (.return_, 1) := by decide +kernel
theorem dX0_leastLike_0 : decode cX0_leastLike 0 = .ok (.aload_n 0, 1) := by decide +kernel
theorem dX0_leastLike_1 : decode cX0_leastLike 1 = .ok (.getfield 9, 3) := by decide +kernel
theorem dX0_leastLike_4 : decode cX0_leastLike 4 = .ok (.iload_n 1, 1) := by decide +kernel
theorem dX0_leastLike_5 : decode cX0_leastLike 5 = .ok (.iaload, 1) := by decide +kernel
theorem dX0_leastLike_6 : decode cX0_leastLike 6 = .ok (.istore_n 2, 1) := by decide +kernel
theorem dX0_leastLike_7 : decode cX0_leastLike 7 = .ok (.iconst 0, 1) := by decide +kernel
theorem dX0_leastLike_8 : decode cX0_leastLike 8 = .ok (.istore_n 3, 1) := by decide +kernel
theorem dX0_leastLike_9 : decode cX0_leastLike 9 = .ok (.iload_n 3, 1) := by decide +kernel
theorem dX0_leastLike_10 : decode cX0_leastLike 10 = .ok (.iload_n 1, 1) := by decide +kernel
theorem dX0_leastLike_11 : decode cX0_leastLike 11 = .ok (.if_icmp .ge 36, 3) := by decide +kernel
theorem dX0_leastLike_14 : decode cX0_leastLike 14 = .ok (.iload_n 2, 1) := by decide +kernel
theorem dX0_leastLike_15 : decode cX0_leastLike 15 = .ok (.iconst (-1), 1) := by decide +kernel
theorem dX0_leastLike_16 : decode cX0_leastLike 16 = .ok (.if_icmp .eq 31, 3) := by decide +kernel
theorem dX0_leastLike_19 : decode cX0_leastLike 19 = .ok (.aload_n 0, 1) := by decide +kernel
theorem dX0_leastLike_20 : decode cX0_leastLike 20 = .ok (.getfield 15, 3) := by decide +kernel
theorem dX0_leastLike_23 : decode cX0_leastLike 23 = .ok (.iload_n 2, 1) := by decide +kernel
theorem dX0_leastLike_24 : decode cX0_leastLike 24 = .ok (.iaload, 1) := by decide +kernel
theorem dX0_leastLike_25 : decode cX0_leastLike 25 = .ok (.aload_n 0, 1) := by decide +kernel
theorem dX0_leastLike_26 : decode cX0_leastLike 26 = .ok (.getfield 15, 3) := by decide +kernel
theorem dX0_leastLike_29 : decode cX0_leastLike 29 = .ok (.iload_n 1, 1) := by decide +kernel
theorem dX0_leastLike_30 : decode cX0_leastLike 30 = .ok (.iaload, 1) := by decide +kernel
theorem dX0_leastLike_31 : decode cX0_leastLike 31 = .ok (.if_icmp .lt 16, 3) := by decide +kernel
theorem dX0_leastLike_34 : decode cX0_leastLike 34 = .ok (.aload_n 0, 1) := by decide +kernel
theorem dX0_leastLike_35 : decode cX0_leastLike 35 = .ok (.getfield 9, 3) := by decide +kernel
theorem dX0_leastLike_38 : decode cX0_leastLike 38 = .ok (.iload_n 2, 1) := by decide +kernel
theorem dX0_leastLike_39 : decode cX0_leastLike 39 = .ok (.iaload, 1) := by decide +kernel
theorem dX0_leastLike_40 : decode cX0_leastLike 40 = .ok (.istore_n 2, 1) := by decide +kernel
theorem dX0_leastLike_41 : decode cX0_leastLike 41 = .ok (.iinc 3 1, 3) := by decide +kernel
theorem dX0_leastLike_44 : decode cX0_leastLike 44 = .ok (.goto (-35), 3) := by decide +kernel
theorem dX0_leastLike_47 : decode cX0_leastLike 47 = .ok (.iload_n 2, 1) := by decide +kernel
theorem dX0_leastLike_48 : decode cX0_leastLike 48 = .ok (.ireturn, 1) := by decide +kernel
theorem dX0_countPieces_0 : decode cX0_countPieces 0 = .ok (.aload_n 0, 1) := by decide +kernel
theorem dX0_countPieces_1 : decode cX0_countPieces 1 = .ok (.getfield 30, 3) := by decide +kernel
theorem dX0_countPieces_4 : decode cX0_countPieces 4 = .ok (.getfield 41, 3) := by decide +kernel
theorem dX0_countPieces_7 : decode cX0_countPieces 7 = .ok (.iconst 1, 1) := by decide +kernel
theorem dX0_countPieces_8 : decode cX0_countPieces 8 = .ok (.isub, 1) := by decide +kernel
theorem dX0_countPieces_9 : decode cX0_countPieces 9 = .ok (.istore_n 1, 1) := by decide +kernel
theorem dX0_countPieces_10 : decode cX0_countPieces 10 = .ok (.iload_n 1, 1) := by decide +kernel
theorem dX0_countPieces_11 : decode cX0_countPieces 11 = .ok (.ifCond .lt 62, 3) := by decide +kernel
theorem dX0_countPieces_14 : decode cX0_countPieces 14 = .ok (.iload_n 1, 1) := by decide +kernel
theorem dX0_countPieces_15 : decode cX0_countPieces 15 = .ok (.iconst 1, 1) := by decide +kernel
theorem dX0_countPieces_16 : decode cX0_countPieces 16 = .ok (.aload_n 0, 1) := by decide +kernel
theorem dX0_countPieces_17 : decode cX0_countPieces 17 = .ok (.getfield 15, 3) := by decide +kernel
theorem dX0_countPieces_20 : decode cX0_countPieces 20 = .ok (.iload_n 1, 1) := by decide +kernel
theorem dX0_countPieces_21 : decode cX0_countPieces 21 = .ok (.iaload, 1) := by decide +kernel
theorem dX0_countPieces_22 : decode cX0_countPieces 22 = .ok (.invokestatic 69, 3) := by decide +kernel
theorem dX0_countPieces_25 : decode cX0_countPieces 25 = .ok (.iadd, 1) := by decide +kernel
theorem dX0_countPieces_26 : decode cX0_countPieces 26 = .ok (.istore_n 2, 1) := by decide +kernel
theorem dX0_countPieces_27 : decode cX0_countPieces 27 = .ok (.aload_n 0, 1) := by decide +kernel
theorem dX0_countPieces_28 : decode cX0_countPieces 28 = .ok (.getfield 18, 3) := by decide +kernel
theorem dX0_countPieces_31 : decode cX0_countPieces 31 = .ok (.iload_n 1, 1) := by decide +kernel
theorem dX0_countPieces_32 : decode cX0_countPieces 32 = .ok (.aload_n 0, 1) := by decide +kernel
theorem dX0_countPieces_33 : decode cX0_countPieces 33 = .ok (.getfield 30, 3) := by decide +kernel
theorem dX0_countPieces_36 : decode cX0_countPieces 36 = .ok (.iload_n 1, 1) := by decide +kernel
theorem dX0_countPieces_37 : decode cX0_countPieces 37 = .ok (.invokevirtual 79, 3) := by decide +kernel
theorem dX0_countPieces_40 : decode cX0_countPieces 40 = .ok (.ifCond .ne 14, 3) := by decide +kernel
theorem dX0_countPieces_43 : decode cX0_countPieces 43 = .ok (.iload_n 2, 1) := by decide +kernel
theorem dX0_countPieces_44 : decode cX0_countPieces 44 = .ok (.aload_n 0, 1) := by decide +kernel
theorem dX0_countPieces_45 : decode cX0_countPieces 45 = .ok (.getfield 30, 3) := by decide +kernel
theorem dX0_countPieces_48 : decode cX0_countPieces 48 = .ok (.getfield 41, 3) := by decide +kernel
theorem dX0_countPieces_51 : decode cX0_countPieces 51 = .ok (.if_icmp .lt 7, 3) := by decide +kernel
theorem dX0_countPieces_54 : decode cX0_countPieces 54 = .ok (.iconst 0, 1) := by decide +kernel
theorem dX0_countPieces_55 : decode cX0_countPieces 55 = .ok (.goto 11, 3) := by decide +kernel
theorem dX0_countPieces_58 : decode cX0_countPieces 58 = .ok (.iconst 1, 1) := by decide +kernel
theorem dX0_countPieces_59 : decode cX0_countPieces 59 = .ok (.aload_n 0, 1) := by decide +kernel
theorem dX0_countPieces_60 : decode cX0_countPieces 60 = .ok (.getfield 18, 3) := by decide +kernel
theorem dX0_countPieces_63 : decode cX0_countPieces 63 = .ok (.iload_n 2, 1) := by decide +kernel
theorem dX0_countPieces_64 : decode cX0_countPieces 64 = .ok (.iaload, 1) := by decide +kernel
theorem dX0_countPieces_65 : decode cX0_countPieces 65 = .ok (.iadd, 1) := by decide +kernel
theorem dX0_countPieces_66 : decode cX0_countPieces 66 = .ok (.iastore, 1) := by decide +kernel
theorem dX0_countPieces_67 : decode cX0_countPieces 67 = .ok (.iinc 1 (-1), 3) := by decide +kernel
theorem dX0_countPieces_70 : decode cX0_countPieces 70 = .ok (.goto (-60), 3) := by decide +kernel
theorem dX0_countPieces_73 : decode cX0_countPieces 73 = .ok (.return_, 1) := by decide +kernel
theorem dX1_init_0 : decode cX1_init 0 = .ok (.aload_n 0, 1) := by decide +kernel
theorem dX1_init_1 : decode cX1_init 1 = .ok (.invokespecial 3, 3) := by decide +kernel
theorem dX1_init_4 : decode cX1_init 4 = .ok (.aload_n 0, 1) := by decide +kernel
theorem dX1_init_5 : decode cX1_init 5 = .ok (.sipush 408, 3) := by decide +kernel
theorem dX1_init_8 : decode cX1_init 8 = .ok (.newarray .int, 2) := by decide +kernel
theorem dX1_init_10 : decode cX1_init 10 = .ok (.putfield 9, 3) := by decide +kernel
theorem dX1_init_13 : decode cX1_init 13 = .ok (.aload_n 0, 1) := by decide +kernel
theorem dX1_init_14 : decode cX1_init 14 = .ok (.aload_n 1, 1) := by decide +kernel
theorem dX1_init_15 : decode cX1_init 15 = .ok (.putfield 15, 3) := by decide +kernel
theorem dX1_init_18 : decode cX1_init 18 = .ok (.aload_n 0, 1) := by decide +kernel
theorem dX1_init_19 : decode cX1_init 19 = .ok (.aload_n 2, 1) := by decide +kernel
theorem dX1_init_20 : decode cX1_init 20 = .ok (.putfield 19, 3) := by decide +kernel
theorem dX1_init_23 : decode cX1_init 23 = .ok (.return_, 1) := by decide +kernel
theorem dX1_reset_0 : decode cX1_reset 0 = .ok (.aload_n 0, 1) := by decide +kernel
theorem dX1_reset_1 : decode cX1_reset 1 = .ok (.getfield 19, 3) := by decide +kernel
theorem dX1_reset_4 : decode cX1_reset 4 = .ok (.getfield 23, 3) := by decide +kernel
theorem dX1_reset_7 : decode cX1_reset 7 = .ok (.iconst 0, 1) := by decide +kernel
theorem dX1_reset_8 : decode cX1_reset 8 = .ok (.aload_n 0, 1) := by decide +kernel
theorem dX1_reset_9 : decode cX1_reset 9 = .ok (.getfield 9, 3) := by decide +kernel
theorem dX1_reset_12 : decode cX1_reset 12 = .ok (.iconst 0, 1) := by decide +kernel
theorem dX1_reset_13 : decode cX1_reset 13 = .ok (.aload_n 0, 1) := by decide +kernel
theorem dX1_reset_14 : decode cX1_reset 14 = .ok (.getfield 15, 3) := by decide +kernel
theorem dX1_reset_17 : decode cX1_reset 17 = .ok (.getfield 28, 3) := by decide +kernel
theorem dX1_reset_20 : decode cX1_reset 20 = .ok (.invokestatic 34, 3) := by decide +kernel
theorem dX1_reset_23 : decode cX1_reset 23 = .ok (.return_, 1) := by decide +kernel
theorem dX1_replace_0 : decode cX1_replace 0 = .ok (.aload_n 0, 1) := by decide +kernel
theorem dX1_replace_1 : decode cX1_replace 1 = .ok (.getfield 9, 3) := by decide +kernel
theorem dX1_replace_4 : decode cX1_replace 4 = .ok (.iload_n 1, 1) := by decide +kernel
theorem dX1_replace_5 : decode cX1_replace 5 = .ok (.iaload, 1) := by decide +kernel
theorem dX1_replace_6 : decode cX1_replace 6 = .ok (.istore_n 3, 1) := by decide +kernel
theorem dX1_replace_7 : decode cX1_replace 7 = .ok (.aload_n 0, 1) := by decide +kernel
theorem dX1_replace_8 : decode cX1_replace 8 = .ok (.getfield 9, 3) := by decide +kernel
theorem dX1_replace_11 : decode cX1_replace 11 = .ok (.iload_n 1, 1) := by decide +kernel
theorem dX1_replace_12 : decode cX1_replace 12 = .ok (.iload_n 2, 1) := by decide +kernel
theorem dX1_replace_13 : decode cX1_replace 13 = .ok (.iastore, 1) := by decide +kernel
theorem dX1_replace_14 : decode cX1_replace 14 = .ok (.iload_n 3, 1) := by decide +kernel
theorem dX1_replace_15 : decode cX1_replace 15 = .ok (.ireturn, 1) := by decide +kernel
theorem dX1_firstWrong_0 : decode cX1_firstWrong 0 = .ok (.iconst (-1), 1) := by decide +kernel
theorem dX1_firstWrong_1 : decode cX1_firstWrong 1 = .ok (.istore_n 1, 1) := by decide +kernel
theorem dX1_firstWrong_2 : decode cX1_firstWrong 2 = .ok (.iconst 0, 1) := by decide +kernel
theorem dX1_firstWrong_3 : decode cX1_firstWrong 3 = .ok (.istore_n 2, 1) := by decide +kernel
theorem dX1_firstWrong_4 : decode cX1_firstWrong 4 = .ok (.iload_n 2, 1) := by decide +kernel
theorem dX1_firstWrong_5 : decode cX1_firstWrong 5 = .ok (.aload_n 0, 1) := by decide +kernel
theorem dX1_firstWrong_6 : decode cX1_firstWrong 6 = .ok (.getfield 15, 3) := by decide +kernel
theorem dX1_firstWrong_9 : decode cX1_firstWrong 9 = .ok (.getfield 28, 3) := by decide +kernel
theorem dX1_firstWrong_12 : decode cX1_firstWrong 12 = .ok (.if_icmp .ge 52, 3) := by decide +kernel
theorem dX1_firstWrong_15 : decode cX1_firstWrong 15 = .ok (.aload_n 0, 1) := by decide +kernel
theorem dX1_firstWrong_16 : decode cX1_firstWrong 16 = .ok (.getfield 9, 3) := by decide +kernel
theorem dX1_firstWrong_19 : decode cX1_firstWrong 19 = .ok (.iload_n 2, 1) := by decide +kernel
theorem dX1_firstWrong_20 : decode cX1_firstWrong 20 = .ok (.iaload, 1) := by decide +kernel
theorem dX1_firstWrong_21 : decode cX1_firstWrong 21 = .ok (.istore_n 3, 1) := by decide +kernel
theorem dX1_firstWrong_22 : decode cX1_firstWrong 22 = .ok (.aload_n 0, 1) := by decide +kernel
theorem dX1_firstWrong_23 : decode cX1_firstWrong 23 = .ok (.getfield 15, 3) := by decide +kernel
theorem dX1_firstWrong_26 : decode cX1_firstWrong 26 = .ok (.iload_n 3, 1) := by decide +kernel
theorem dX1_firstWrong_27 : decode cX1_firstWrong 27 = .ok (.invokevirtual 40, 3) := by decide +kernel
theorem dX1_firstWrong_30 : decode cX1_firstWrong 30 = .ok (.ifCond .eq 16, 3) := by decide +kernel
theorem dX1_firstWrong_33 : decode cX1_firstWrong 33 = .ok (.aload_n 0, 1) := by decide +kernel
theorem dX1_firstWrong_34 : decode cX1_firstWrong 34 = .ok (.getfield 19, 3) := by decide +kernel
theorem dX1_firstWrong_37 : decode cX1_firstWrong 37 = .ok (.getfield 44, 3) := by decide +kernel
theorem dX1_firstWrong_40 : decode cX1_firstWrong 40 = .ok (.iload_n 3, 1) := by decide +kernel
theorem dX1_firstWrong_41 : decode cX1_firstWrong 41 = .ok (.iaload, 1) := by decide +kernel
theorem dX1_firstWrong_42 : decode cX1_firstWrong 42 = .ok (.iload_n 1, 1) := by decide +kernel
theorem dX1_firstWrong_43 : decode cX1_firstWrong 43 = .ok (.if_icmp .gt 5, 3) := by decide +kernel
theorem dX1_firstWrong_46 : decode cX1_firstWrong 46 = .ok (.iload_n 2, 1) := by decide +kernel
theorem dX1_firstWrong_47 : decode cX1_firstWrong 47 = .ok (.ireturn, 1) := by decide +kernel
theorem dX1_firstWrong_48 : decode cX1_firstWrong 48 = .ok (.aload_n 0, 1) := by decide +kernel
theorem dX1_firstWrong_49 : decode cX1_firstWrong 49 = .ok (.getfield 19, 3) := by decide +kernel
theorem dX1_firstWrong_52 : decode cX1_firstWrong 52 = .ok (.getfield 44, 3) := by decide +kernel
theorem dX1_firstWrong_55 : decode cX1_firstWrong 55 = .ok (.iload_n 3, 1) := by decide +kernel
theorem dX1_firstWrong_56 : decode cX1_firstWrong 56 = .ok (.iaload, 1) := by decide +kernel
theorem dX1_firstWrong_57 : decode cX1_firstWrong 57 = .ok (.istore_n 1, 1) := by decide +kernel
theorem dX1_firstWrong_58 : decode cX1_firstWrong 58 = .ok (.iinc 2 1, 3) := by decide +kernel
theorem dX1_firstWrong_61 : decode cX1_firstWrong 61 = .ok (.goto (-57), 3) := by decide +kernel
theorem dX1_firstWrong_64 : decode cX1_firstWrong 64 = .ok (.aload_n 0, 1) := by decide +kernel
theorem dX1_firstWrong_65 : decode cX1_firstWrong 65 = .ok (.getfield 15, 3) := by decide +kernel
theorem dX1_firstWrong_68 : decode cX1_firstWrong 68 = .ok (.getfield 28, 3) := by decide +kernel
theorem dX1_firstWrong_71 : decode cX1_firstWrong 71 = .ok (.ireturn, 1) := by decide +kernel
theorem dX2_init_0 : decode cX2_init 0 = .ok (.aload_n 0, 1) := by decide +kernel
theorem dX2_init_1 : decode cX2_init 1 = .ok (.invokespecial 3, 3) := by decide +kernel
theorem dX2_init_4 : decode cX2_init 4 = .ok (.aload_n 0, 1) := by decide +kernel
theorem dX2_init_5 : decode cX2_init 5 = .ok (.bipush 40, 2) := by decide +kernel
theorem dX2_init_7 : decode cX2_init 7 = .ok (.newarray .int, 2) := by decide +kernel
theorem dX2_init_9 : decode cX2_init 9 = .ok (.putfield 9, 3) := by decide +kernel
theorem dX2_init_12 : decode cX2_init 12 = .ok (.aload_n 0, 1) := by decide +kernel
theorem dX2_init_13 : decode cX2_init 13 = .ok (.aload_n 1, 1) := by decide +kernel
theorem dX2_init_14 : decode cX2_init 14 = .ok (.putfield 15, 3) := by decide +kernel
theorem dX2_init_17 : decode cX2_init 17 = .ok (.aload_n 0, 1) := by decide +kernel
theorem dX2_init_18 : decode cX2_init 18 = .ok (.aload_n 2, 1) := by decide +kernel
theorem dX2_init_19 : decode cX2_init 19 = .ok (.putfield 19, 3) := by decide +kernel
theorem dX2_init_22 : decode cX2_init 22 = .ok (.return_, 1) := by decide +kernel
theorem dX2_append_0 : decode cX2_append 0 = .ok (.iload_n 1, 1) := by decide +kernel
theorem dX2_append_1 : decode cX2_append 1 = .ok (.iconst (-1), 1) := by decide +kernel
theorem dX2_append_2 : decode cX2_append 2 = .ok (.if_icmp .eq 12, 3) := by decide +kernel
theorem dX2_append_5 : decode cX2_append 5 = .ok (.aload_n 0, 1) := by decide +kernel
theorem dX2_append_6 : decode cX2_append 6 = .ok (.getfield 23, 3) := by decide +kernel
theorem dX2_append_9 : decode cX2_append 9 = .ok (.bipush 40, 2) := by decide +kernel
theorem dX2_append_11 : decode cX2_append 11 = .ok (.if_icmp .lt 4, 3) := by decide +kernel
theorem dX2_append_14 : decode cX2_append 14 = .ok (.return_, 1) := by decide +kernel
theorem dX2_append_15 : decode cX2_append 15 = .ok (.aload_n 0, 1) := by decide +kernel
theorem dX2_append_16 : decode cX2_append 16 = .ok (.getfield 9, 3) := by decide +kernel
theorem dX2_append_19 : decode cX2_append 19 = .ok (.aload_n 0, 1) := by decide +kernel
theorem dX2_append_20 : decode cX2_append 20 = .ok (.getfield 23, 3) := by decide +kernel
theorem dX2_append_23 : decode cX2_append 23 = .ok (.iload_n 1, 1) := by decide +kernel
theorem dX2_append_24 : decode cX2_append 24 = .ok (.bipush 8, 2) := by decide +kernel
theorem dX2_append_26 : decode cX2_append 26 = .ok (.iadd, 1) := by decide +kernel
theorem dX2_append_27 : decode cX2_append 27 = .ok (.iastore, 1) := by decide +kernel
theorem dX2_append_28 : decode cX2_append 28 = .ok (.aload_n 0, 1) := by decide +kernel
theorem dX2_append_29 : decode cX2_append 29 = .ok (.dup, 1) := by decide +kernel
theorem dX2_append_30 : decode cX2_append 30 = .ok (.getfield 23, 3) := by decide +kernel
theorem dX2_append_33 : decode cX2_append 33 = .ok (.iconst 1, 1) := by decide +kernel
theorem dX2_append_34 : decode cX2_append 34 = .ok (.iadd, 1) := by decide +kernel
theorem dX2_append_35 : decode cX2_append 35 = .ok (.putfield 23, 3) := by decide +kernel
theorem dX2_append_38 : decode cX2_append 38 = .ok (.return_, 1) := by decide +kernel
theorem dX2_firstReaching_0 : decode cX2_firstReaching 0 = .ok (.iconst 0, 1) := by decide +kernel
theorem dX2_firstReaching_1 : decode cX2_firstReaching 1 = .ok (.istore_n 2, 1) := by decide +kernel
theorem dX2_firstReaching_2 : decode cX2_firstReaching 2 = .ok (.aload_n 0, 1) := by decide +kernel
theorem dX2_firstReaching_3 : decode cX2_firstReaching 3 = .ok (.getfield 15, 3) := by decide +kernel
theorem dX2_firstReaching_6 : decode cX2_firstReaching 6 = .ok (.getfield 27, 3) := by decide +kernel
theorem dX2_firstReaching_9 : decode cX2_firstReaching 9 = .ok (.istore_n 3, 1) := by decide +kernel
theorem dX2_firstReaching_10 : decode cX2_firstReaching 10 = .ok (.iload_n 2, 1) := by decide +kernel
theorem dX2_firstReaching_11 : decode cX2_firstReaching 11 = .ok (.iload_n 3, 1) := by decide +kernel
theorem dX2_firstReaching_12 : decode cX2_firstReaching 12 = .ok (.if_icmp .ge 42, 3) := by decide +kernel
theorem dX2_firstReaching_15 : decode cX2_firstReaching 15 = .ok (.iload_n 2, 1) := by decide +kernel
theorem dX2_firstReaching_16 : decode cX2_firstReaching 16 = .ok (.iload_n 3, 1) := by decide +kernel
theorem dX2_firstReaching_17 : decode cX2_firstReaching 17 = .ok (.iadd, 1) := by decide +kernel
theorem dX2_firstReaching_18 : decode cX2_firstReaching 18 = .ok (.iconst 2, 1) := by decide +kernel
theorem dX2_firstReaching_19 : decode cX2_firstReaching 19 = .ok (.idiv, 1) := by decide +kernel
theorem dX2_firstReaching_20 : decode cX2_firstReaching 20 = .ok (.istore 4, 2) := by decide +kernel
theorem dX2_firstReaching_22 : decode cX2_firstReaching 22 = .ok (.aload_n 0, 1) := by decide +kernel
theorem dX2_firstReaching_23 : decode cX2_firstReaching 23 = .ok (.aload_n 0, 1) := by decide +kernel
theorem dX2_firstReaching_24 : decode cX2_firstReaching 24 = .ok (.getfield 19, 3) := by decide +kernel
theorem dX2_firstReaching_27 : decode cX2_firstReaching 27 = .ok (.getfield 32, 3) := by decide +kernel
theorem dX2_firstReaching_30 : decode cX2_firstReaching 30 = .ok (.iload 4, 2) := by decide +kernel
theorem dX2_firstReaching_32 : decode cX2_firstReaching 32 = .ok (.iaload, 1) := by decide +kernel
theorem dX2_firstReaching_33 : decode cX2_firstReaching 33 = .ok (.invokevirtual 37, 3) := by decide +kernel
theorem dX2_firstReaching_36 : decode cX2_firstReaching 36 = .ok (.iload_n 1, 1) := by decide +kernel
theorem dX2_firstReaching_37 : decode cX2_firstReaching 37 = .ok (.if_icmp .ge 11, 3) := by decide +kernel
theorem dX2_firstReaching_40 : decode cX2_firstReaching 40 = .ok (.iload 4, 2) := by decide +kernel
theorem dX2_firstReaching_42 : decode cX2_firstReaching 42 = .ok (.iconst 1, 1) := by decide +kernel
theorem dX2_firstReaching_43 : decode cX2_firstReaching 43 = .ok (.iadd, 1) := by decide +kernel
theorem dX2_firstReaching_44 : decode cX2_firstReaching 44 = .ok (.istore_n 2, 1) := by decide +kernel
theorem dX2_firstReaching_45 : decode cX2_firstReaching 45 = .ok (.goto 6, 3) := by decide +kernel
theorem dX2_firstReaching_48 : decode cX2_firstReaching 48 = .ok (.iload 4, 2) := by decide +kernel
theorem dX2_firstReaching_50 : decode cX2_firstReaching 50 = .ok (.istore_n 3, 1) := by decide +kernel
theorem dX2_firstReaching_51 : decode cX2_firstReaching 51 = .ok (.goto (-41), 3) := by decide +kernel
theorem dX2_firstReaching_54 : decode cX2_firstReaching 54 = .ok (.iload_n 2, 1) := by decide +kernel
theorem dX2_firstReaching_55 : decode cX2_firstReaching 55 = .ok (.ireturn, 1) := by decide +kernel
theorem dX2_sideOf_0 : decode cX2_sideOf 0 = .ok (.aload_n 0, 1) := by decide +kernel
theorem dX2_sideOf_1 : decode cX2_sideOf 1 = .ok (.iload_n 1, 1) := by decide +kernel
theorem dX2_sideOf_2 : decode cX2_sideOf 2 = .ok (.invokevirtual 41, 3) := by decide +kernel
theorem dX2_sideOf_5 : decode cX2_sideOf 5 = .ok (.istore_n 2, 1) := by decide +kernel
theorem dX2_sideOf_6 : decode cX2_sideOf 6 = .ok (.iload_n 2, 1) := by decide +kernel
theorem dX2_sideOf_7 : decode cX2_sideOf 7 = .ok (.aload_n 0, 1) := by decide +kernel
theorem dX2_sideOf_8 : decode cX2_sideOf 8 = .ok (.getfield 23, 3) := by decide +kernel
theorem dX2_sideOf_11 : decode cX2_sideOf 11 = .ok (.if_icmp .ne 5, 3) := by decide +kernel
theorem dX2_sideOf_14 : decode cX2_sideOf 14 = .ok (.iconst 0, 1) := by decide +kernel
theorem dX2_sideOf_15 : decode cX2_sideOf 15 = .ok (.ireturn, 1) := by decide +kernel
theorem dX2_sideOf_16 : decode cX2_sideOf 16 = .ok (.iload_n 1, 1) := by decide +kernel
theorem dX2_sideOf_17 : decode cX2_sideOf 17 = .ok (.iload_n 2, 1) := by decide +kernel
theorem dX2_sideOf_18 : decode cX2_sideOf 18 = .ok (.iadd, 1) := by decide +kernel
theorem dX2_sideOf_19 : decode cX2_sideOf 19 = .ok (.aload_n 0, 1) := by decide +kernel
theorem dX2_sideOf_20 : decode cX2_sideOf 20 = .ok (.getfield 15, 3) := by decide +kernel
theorem dX2_sideOf_23 : decode cX2_sideOf 23 = .ok (.getfield 27, 3) := by decide +kernel
theorem dX2_sideOf_26 : decode cX2_sideOf 26 = .ok (.if_icmp .ge 23, 3) := by decide +kernel
theorem dX2_sideOf_29 : decode cX2_sideOf 29 = .ok (.aload_n 0, 1) := by decide +kernel
theorem dX2_sideOf_30 : decode cX2_sideOf 30 = .ok (.getfield 15, 3) := by decide +kernel
theorem dX2_sideOf_33 : decode cX2_sideOf 33 = .ok (.getfield 44, 3) := by decide +kernel
theorem dX2_sideOf_36 : decode cX2_sideOf 36 = .ok (.iload_n 1, 1) := by decide +kernel
theorem dX2_sideOf_37 : decode cX2_sideOf 37 = .ok (.iload_n 2, 1) := by decide +kernel
theorem dX2_sideOf_38 : decode cX2_sideOf 38 = .ok (.iadd, 1) := by decide +kernel
theorem dX2_sideOf_39 : decode cX2_sideOf 39 = .ok (.iaload, 1) := by decide +kernel
theorem dX2_sideOf_40 : decode cX2_sideOf 40 = .ok (.aload_n 0, 1) := by decide +kernel
theorem dX2_sideOf_41 : decode cX2_sideOf 41 = .ok (.getfield 9, 3) := by decide +kernel
theorem dX2_sideOf_44 : decode cX2_sideOf 44 = .ok (.iload_n 2, 1) := by decide +kernel
theorem dX2_sideOf_45 : decode cX2_sideOf 45 = .ok (.iaload, 1) := by decide +kernel
theorem dX2_sideOf_46 : decode cX2_sideOf 46 = .ok (.if_icmp .ge 5, 3) := by decide +kernel
theorem dX2_sideOf_49 : decode cX2_sideOf 49 = .ok (.iconst (-1), 1) := by decide +kernel
theorem dX2_sideOf_50 : decode cX2_sideOf 50 = .ok (.ireturn, 1) := by decide +kernel
theorem dX2_sideOf_51 : decode cX2_sideOf 51 = .ok (.iconst 1, 1) := by decide +kernel
theorem dX2_sideOf_52 : decode cX2_sideOf 52 = .ok (.ireturn, 1) := by decide +kernel
theorem dX2_alikeAt_0 : decode cX2_alikeAt 0 = .ok (.iconst 0, 1) := by decide +kernel
theorem dX2_alikeAt_1 : decode cX2_alikeAt 1 = .ok (.istore_n 2, 1) := by decide +kernel
theorem dX2_alikeAt_2 : decode cX2_alikeAt 2 = .ok (.iload_n 2, 1) := by decide +kernel
theorem dX2_alikeAt_3 : decode cX2_alikeAt 3 = .ok (.aload_n 0, 1) := by decide +kernel
theorem dX2_alikeAt_4 : decode cX2_alikeAt 4 = .ok (.getfield 23, 3) := by decide +kernel
theorem dX2_alikeAt_7 : decode cX2_alikeAt 7 = .ok (.if_icmp .ge 42, 3) := by decide +kernel
theorem dX2_alikeAt_10 : decode cX2_alikeAt 10 = .ok (.iload_n 1, 1) := by decide +kernel
theorem dX2_alikeAt_11 : decode cX2_alikeAt 11 = .ok (.iload_n 2, 1) := by decide +kernel
theorem dX2_alikeAt_12 : decode cX2_alikeAt 12 = .ok (.iadd, 1) := by decide +kernel
theorem dX2_alikeAt_13 : decode cX2_alikeAt 13 = .ok (.aload_n 0, 1) := by decide +kernel
theorem dX2_alikeAt_14 : decode cX2_alikeAt 14 = .ok (.getfield 15, 3) := by decide +kernel
theorem dX2_alikeAt_17 : decode cX2_alikeAt 17 = .ok (.getfield 27, 3) := by decide +kernel
theorem dX2_alikeAt_20 : decode cX2_alikeAt 20 = .ok (.if_icmp .ge 29, 3) := by decide +kernel
theorem dX2_alikeAt_23 : decode cX2_alikeAt 23 = .ok (.aload_n 0, 1) := by decide +kernel
theorem dX2_alikeAt_24 : decode cX2_alikeAt 24 = .ok (.getfield 15, 3) := by decide +kernel
theorem dX2_alikeAt_27 : decode cX2_alikeAt 27 = .ok (.getfield 44, 3) := by decide +kernel
theorem dX2_alikeAt_30 : decode cX2_alikeAt 30 = .ok (.iload_n 1, 1) := by decide +kernel
theorem dX2_alikeAt_31 : decode cX2_alikeAt 31 = .ok (.iload_n 2, 1) := by decide +kernel
theorem dX2_alikeAt_32 : decode cX2_alikeAt 32 = .ok (.iadd, 1) := by decide +kernel
theorem dX2_alikeAt_33 : decode cX2_alikeAt 33 = .ok (.iaload, 1) := by decide +kernel
theorem dX2_alikeAt_34 : decode cX2_alikeAt 34 = .ok (.aload_n 0, 1) := by decide +kernel
theorem dX2_alikeAt_35 : decode cX2_alikeAt 35 = .ok (.getfield 9, 3) := by decide +kernel
theorem dX2_alikeAt_38 : decode cX2_alikeAt 38 = .ok (.iload_n 2, 1) := by decide +kernel
theorem dX2_alikeAt_39 : decode cX2_alikeAt 39 = .ok (.iaload, 1) := by decide +kernel
theorem dX2_alikeAt_40 : decode cX2_alikeAt 40 = .ok (.if_icmp .ne 9, 3) := by decide +kernel
theorem dX2_alikeAt_43 : decode cX2_alikeAt 43 = .ok (.iinc 2 1, 3) := by decide +kernel
theorem dX2_alikeAt_46 : decode cX2_alikeAt 46 = .ok (.goto (-44), 3) := by decide +kernel
theorem dX2_alikeAt_49 : decode cX2_alikeAt 49 = .ok (.iload_n 2, 1) := by decide +kernel
theorem dX2_alikeAt_50 : decode cX2_alikeAt 50 = .ok (.ireturn, 1) := by decide +kernel
theorem dX2_longestBeginning_0 : decode cX2_longestBeginning 0 = .ok (.iconst 0, 1) := by decide +kernel
theorem dX2_longestBeginning_1 : decode cX2_longestBeginning 1 = .ok (.istore_n 2, 1) := by decide +kernel
theorem dX2_longestBeginning_2 : decode cX2_longestBeginning 2 = .ok (.iload_n 1, 1) := by decide +kernel
theorem dX2_longestBeginning_3 : decode cX2_longestBeginning 3 = .ok (.ifCond .le 19, 3) := by decide +kernel
theorem dX2_longestBeginning_6 : decode cX2_longestBeginning 6 = .ok (.aload_n 0, 1) := by decide +kernel
theorem dX2_longestBeginning_7 : decode cX2_longestBeginning 7 = .ok (.aload_n 0, 1) := by decide +kernel
theorem dX2_longestBeginning_8 : decode cX2_longestBeginning 8 = .ok (.getfield 19, 3) := by decide +kernel
theorem dX2_longestBeginning_11 : decode cX2_longestBeginning 11 = .ok (.getfield 32, 3) := by decide +kernel
theorem dX2_longestBeginning_14 : decode cX2_longestBeginning 14 = .ok (.iload_n 1, 1) := by decide +kernel
theorem dX2_longestBeginning_15 : decode cX2_longestBeginning 15 = .ok (.iconst 1, 1) := by decide +kernel
theorem dX2_longestBeginning_16 : decode cX2_longestBeginning 16 = .ok (.isub, 1) := by decide +kernel
theorem dX2_longestBeginning_17 : decode cX2_longestBeginning 17 = .ok (.iaload, 1) := by decide +kernel
theorem dX2_longestBeginning_18 : decode cX2_longestBeginning 18 = .ok (.invokevirtual 41, 3) := by decide +kernel
theorem dX2_longestBeginning_21 : decode cX2_longestBeginning 21 = .ok (.istore_n 2, 1) := by decide +kernel
theorem dX2_longestBeginning_22 : decode cX2_longestBeginning 22 = .ok (.iload_n 1, 1) := by decide +kernel
theorem dX2_longestBeginning_23 : decode cX2_longestBeginning 23 = .ok (.aload_n 0, 1) := by decide +kernel
theorem dX2_longestBeginning_24 : decode cX2_longestBeginning 24 = .ok (.getfield 15, 3) := by decide +kernel
theorem dX2_longestBeginning_27 : decode cX2_longestBeginning 27 = .ok (.getfield 27, 3) := by decide +kernel
theorem dX2_longestBeginning_30 : decode cX2_longestBeginning 30 = .ok (.if_icmp .ge 21, 3) := by decide +kernel
theorem dX2_longestBeginning_33 : decode cX2_longestBeginning 33 = .ok (.iload_n 2, 1) := by decide +kernel
theorem dX2_longestBeginning_34 : decode cX2_longestBeginning 34 = .ok (.aload_n 0, 1) := by decide +kernel
theorem dX2_longestBeginning_35 : decode cX2_longestBeginning 35 = .ok (.aload_n 0, 1) := by decide +kernel
theorem dX2_longestBeginning_36 : decode cX2_longestBeginning 36 = .ok (.getfield 19, 3) := by decide +kernel
theorem dX2_longestBeginning_39 : decode cX2_longestBeginning 39 = .ok (.getfield 32, 3) := by decide +kernel
theorem dX2_longestBeginning_42 : decode cX2_longestBeginning 42 = .ok (.iload_n 1, 1) := by decide +kernel
theorem dX2_longestBeginning_43 : decode cX2_longestBeginning 43 = .ok (.iaload, 1) := by decide +kernel
theorem dX2_longestBeginning_44 : decode cX2_longestBeginning 44 = .ok (.invokevirtual 41, 3) := by decide +kernel
theorem dX2_longestBeginning_47 : decode cX2_longestBeginning 47 = .ok (.invokestatic 45, 3) := by decide +kernel
theorem dX2_longestBeginning_50 : decode cX2_longestBeginning 50 = .ok (.istore_n 2, 1) := by decide +kernel
theorem dX2_longestBeginning_51 : decode cX2_longestBeginning 51 = .ok (.iload_n 2, 1) := by decide +kernel
theorem dX2_longestBeginning_52 : decode cX2_longestBeginning 52 = .ok (.ireturn, 1) := by decide +kernel
theorem dX2_placeOf_0 : decode cX2_placeOf 0 = .ok (.aload_n 0, 1) := by decide +kernel
theorem dX2_placeOf_1 : decode cX2_placeOf 1 = .ok (.iconst 0, 1) := by decide +kernel
theorem dX2_placeOf_2 : decode cX2_placeOf 2 = .ok (.invokevirtual 51, 3) := by decide +kernel
theorem dX2_placeOf_5 : decode cX2_placeOf 5 = .ok (.istore_n 2, 1) := by decide +kernel
theorem dX2_placeOf_6 : decode cX2_placeOf 6 = .ok (.aload_n 0, 1) := by decide +kernel
theorem dX2_placeOf_7 : decode cX2_placeOf 7 = .ok (.iconst 1, 1) := by decide +kernel
theorem dX2_placeOf_8 : decode cX2_placeOf 8 = .ok (.invokevirtual 51, 3) := by decide +kernel
theorem dX2_placeOf_11 : decode cX2_placeOf 11 = .ok (.istore_n 3, 1) := by decide +kernel
theorem dX2_placeOf_12 : decode cX2_placeOf 12 = .ok (.iload_n 1, 1) := by decide +kernel
theorem dX2_placeOf_13 : decode cX2_placeOf 13 = .ok (.istore 4, 2) := by decide +kernel
theorem dX2_placeOf_15 : decode cX2_placeOf 15 = .ok (.iconst 0, 1) := by decide +kernel
theorem dX2_placeOf_16 : decode cX2_placeOf 16 = .ok (.istore 5, 2) := by decide +kernel
theorem dX2_placeOf_18 : decode cX2_placeOf 18 = .ok (.iload 5, 2) := by decide +kernel
theorem dX2_placeOf_20 : decode cX2_placeOf 20 = .ok (.aload_n 0, 1) := by decide +kernel
theorem dX2_placeOf_21 : decode cX2_placeOf 21 = .ok (.getfield 15, 3) := by decide +kernel
theorem dX2_placeOf_24 : decode cX2_placeOf 24 = .ok (.getfield 27, 3) := by decide +kernel
theorem dX2_placeOf_27 : decode cX2_placeOf 27 = .ok (.if_icmp .ge 48, 3) := by decide +kernel
theorem dX2_placeOf_30 : decode cX2_placeOf 30 = .ok (.aload_n 0, 1) := by decide +kernel
theorem dX2_placeOf_31 : decode cX2_placeOf 31 = .ok (.getfield 19, 3) := by decide +kernel
theorem dX2_placeOf_34 : decode cX2_placeOf 34 = .ok (.getfield 54, 3) := by decide +kernel
theorem dX2_placeOf_37 : decode cX2_placeOf 37 = .ok (.iload 5, 2) := by decide +kernel
theorem dX2_placeOf_39 : decode cX2_placeOf 39 = .ok (.iaload, 1) := by decide +kernel
theorem dX2_placeOf_40 : decode cX2_placeOf 40 = .ok (.iload_n 2, 1) := by decide +kernel
theorem dX2_placeOf_41 : decode cX2_placeOf 41 = .ok (.if_icmp .lt 28, 3) := by decide +kernel
theorem dX2_placeOf_44 : decode cX2_placeOf 44 = .ok (.aload_n 0, 1) := by decide +kernel
theorem dX2_placeOf_45 : decode cX2_placeOf 45 = .ok (.getfield 19, 3) := by decide +kernel
theorem dX2_placeOf_48 : decode cX2_placeOf 48 = .ok (.getfield 54, 3) := by decide +kernel
theorem dX2_placeOf_51 : decode cX2_placeOf 51 = .ok (.iload 5, 2) := by decide +kernel
theorem dX2_placeOf_53 : decode cX2_placeOf 53 = .ok (.iaload, 1) := by decide +kernel
theorem dX2_placeOf_54 : decode cX2_placeOf 54 = .ok (.iload_n 3, 1) := by decide +kernel
theorem dX2_placeOf_55 : decode cX2_placeOf 55 = .ok (.if_icmp .ge 14, 3) := by decide +kernel
theorem dX2_placeOf_58 : decode cX2_placeOf 58 = .ok (.iload 4, 2) := by decide +kernel
theorem dX2_placeOf_60 : decode cX2_placeOf 60 = .ok (.ifCond .ne 6, 3) := by decide +kernel
theorem dX2_placeOf_63 : decode cX2_placeOf 63 = .ok (.iload 5, 2) := by decide +kernel
theorem dX2_placeOf_65 : decode cX2_placeOf 65 = .ok (.ireturn, 1) := by decide +kernel
theorem dX2_placeOf_66 : decode cX2_placeOf 66 = .ok (.iinc 4 (-1), 3) := by decide +kernel
theorem dX2_placeOf_69 : decode cX2_placeOf 69 = .ok (.iinc 5 1, 3) := by decide +kernel
theorem dX2_placeOf_72 : decode cX2_placeOf 72 = .ok (.goto (-54), 3) := by decide +kernel
theorem dX2_placeOf_75 : decode cX2_placeOf 75 = .ok (.iconst (-1), 1) := by decide +kernel
theorem dX2_placeOf_76 : decode cX2_placeOf 76 = .ok (.ireturn, 1) := by decide +kernel
theorem dX3_init_0 : decode cX3_init 0 = .ok (.aload_n 0, 1) := by decide +kernel
theorem dX3_init_1 : decode cX3_init 1 = .ok (.invokespecial 3, 3) := by decide +kernel
theorem dX3_init_4 : decode cX3_init 4 = .ok (.aload_n 0, 1) := by decide +kernel
theorem dX3_init_5 : decode cX3_init 5 = .ok (.sipush 408, 3) := by decide +kernel
theorem dX3_init_8 : decode cX3_init 8 = .ok (.newarray .int, 2) := by decide +kernel
theorem dX3_init_10 : decode cX3_init 10 = .ok (.putfield 9, 3) := by decide +kernel
theorem dX3_init_13 : decode cX3_init 13 = .ok (.aload_n 0, 1) := by decide +kernel
theorem dX3_init_14 : decode cX3_init 14 = .ok (.sipush 408, 3) := by decide +kernel
theorem dX3_init_17 : decode cX3_init 17 = .ok (.newarray .int, 2) := by decide +kernel
theorem dX3_init_19 : decode cX3_init 19 = .ok (.putfield 15, 3) := by decide +kernel
theorem dX3_init_22 : decode cX3_init 22 = .ok (.aload_n 0, 1) := by decide +kernel
theorem dX3_init_23 : decode cX3_init 23 = .ok (.sipush 408, 3) := by decide +kernel
theorem dX3_init_26 : decode cX3_init 26 = .ok (.newarray .int, 2) := by decide +kernel
theorem dX3_init_28 : decode cX3_init 28 = .ok (.putfield 18, 3) := by decide +kernel
theorem dX3_init_31 : decode cX3_init 31 = .ok (.aload_n 0, 1) := by decide +kernel
theorem dX3_init_32 : decode cX3_init 32 = .ok (.new 21, 3) := by decide +kernel
theorem dX3_init_35 : decode cX3_init 35 = .ok (.dup, 1) := by decide +kernel
theorem dX3_init_36 : decode cX3_init 36 = .ok (.invokespecial 23, 3) := by decide +kernel
theorem dX3_init_39 : decode cX3_init 39 = .ok (.putfield 24, 3) := by decide +kernel
theorem dX3_init_42 : decode cX3_init 42 = .ok (.aload_n 0, 1) := by decide +kernel
theorem dX3_init_43 : decode cX3_init 43 = .ok (.aload_n 1, 1) := by decide +kernel
theorem dX3_init_44 : decode cX3_init 44 = .ok (.putfield 28, 3) := by decide +kernel
theorem dX3_init_47 : decode cX3_init 47 = .ok (.return_, 1) := by decide +kernel
theorem dX3_make_0 : decode cX3_make 0 = .ok (.aload_n 0, 1) := by decide +kernel
theorem dX3_make_1 : decode cX3_make 1 = .ok (.getfield 24, 3) := by decide +kernel
theorem dX3_make_4 : decode cX3_make 4 = .ok (.aload_n 0, 1) := by decide +kernel
theorem dX3_make_5 : decode cX3_make 5 = .ok (.getfield 28, 3) := by decide +kernel
theorem dX3_make_8 : decode cX3_make 8 = .ok (.getfield 32, 3) := by decide +kernel
theorem dX3_make_11 : decode cX3_make 11 = .ok (.aload_n 0, 1) := by decide +kernel
theorem dX3_make_12 : decode cX3_make 12 = .ok (.getfield 28, 3) := by decide +kernel
theorem dX3_make_15 : decode cX3_make 15 = .ok (.getfield 37, 3) := by decide +kernel
theorem dX3_make_18 : decode cX3_make 18 = .ok (.invokevirtual 41, 3) := by decide +kernel
theorem dX3_make_21 : decode cX3_make 21 = .ok (.aload_n 0, 1) := by decide +kernel
theorem dX3_make_22 : decode cX3_make 22 = .ok (.getfield 24, 3) := by decide +kernel
theorem dX3_make_25 : decode cX3_make 25 = .ok (.getfield 45, 3) := by decide +kernel
theorem dX3_make_28 : decode cX3_make 28 = .ok (.iconst 0, 1) := by decide +kernel
theorem dX3_make_29 : decode cX3_make 29 = .ok (.aload_n 0, 1) := by decide +kernel
theorem dX3_make_30 : decode cX3_make 30 = .ok (.getfield 9, 3) := by decide +kernel
theorem dX3_make_33 : decode cX3_make 33 = .ok (.iconst 0, 1) := by decide +kernel
theorem dX3_make_34 : decode cX3_make 34 = .ok (.aload_n 0, 1) := by decide +kernel
theorem dX3_make_35 : decode cX3_make 35 = .ok (.getfield 28, 3) := by decide +kernel
theorem dX3_make_38 : decode cX3_make 38 = .ok (.getfield 37, 3) := by decide +kernel
theorem dX3_make_41 : decode cX3_make 41 = .ok (.invokestatic 48, 3) := by decide +kernel
theorem dX3_make_44 : decode cX3_make 44 = .ok (.iconst 0, 1) := by decide +kernel
theorem dX3_make_45 : decode cX3_make 45 = .ok (.istore_n 1, 1) := by decide +kernel
theorem dX3_make_46 : decode cX3_make 46 = .ok (.iload_n 1, 1) := by decide +kernel
theorem dX3_make_47 : decode cX3_make 47 = .ok (.aload_n 0, 1) := by decide +kernel
theorem dX3_make_48 : decode cX3_make 48 = .ok (.getfield 28, 3) := by decide +kernel
theorem dX3_make_51 : decode cX3_make 51 = .ok (.getfield 37, 3) := by decide +kernel
theorem dX3_make_54 : decode cX3_make 54 = .ok (.if_icmp .ge 21, 3) := by decide +kernel
theorem dX3_make_57 : decode cX3_make 57 = .ok (.aload_n 0, 1) := by decide +kernel
theorem dX3_make_58 : decode cX3_make 58 = .ok (.getfield 15, 3) := by decide +kernel
theorem dX3_make_61 : decode cX3_make 61 = .ok (.aload_n 0, 1) := by decide +kernel
theorem dX3_make_62 : decode cX3_make 62 = .ok (.getfield 9, 3) := by decide +kernel
theorem dX3_make_65 : decode cX3_make 65 = .ok (.iload_n 1, 1) := by decide +kernel
theorem dX3_make_66 : decode cX3_make 66 = .ok (.iaload, 1) := by decide +kernel
theorem dX3_make_67 : decode cX3_make 67 = .ok (.iload_n 1, 1) := by decide +kernel
theorem dX3_make_68 : decode cX3_make 68 = .ok (.iastore, 1) := by decide +kernel
theorem dX3_make_69 : decode cX3_make 69 = .ok (.iinc 1 1, 3) := by decide +kernel
theorem dX3_make_72 : decode cX3_make 72 = .ok (.goto (-26), 3) := by decide +kernel
theorem dX3_make_75 : decode cX3_make 75 = .ok (.aload_n 0, 1) := by decide +kernel
theorem dX3_make_76 : decode cX3_make 76 = .ok (.invokevirtual 54, 3) := by decide +kernel
theorem dX3_make_79 : decode cX3_make 79 = .ok (.return_, 1) := by decide +kernel
theorem dX3_measureBesides_0 : decode cX3_measureBesides 0 = .ok (.iconst 0, 1) := by decide +kernel
theorem dX3_measureBesides_1 : decode cX3_measureBesides 1 = .ok (.istore_n 1, 1) := by decide +kernel
theorem dX3_measureBesides_2 : decode cX3_measureBesides 2 = .ok (.iconst 0, 1) := by decide +kernel
theorem dX3_measureBesides_3 : decode cX3_measureBesides 3 = .ok (.istore_n 2, 1) := by decide +kernel
theorem dX3_measureBesides_4 : decode cX3_measureBesides 4 = .ok (.iload_n 2, 1) := by decide +kernel
theorem dX3_measureBesides_5 : decode cX3_measureBesides 5 = .ok (.aload_n 0, 1) := by decide +kernel
theorem dX3_measureBesides_6 : decode cX3_measureBesides 6 = .ok (.getfield 28, 3) := by decide +kernel
theorem dX3_measureBesides_9 : decode cX3_measureBesides 9 = .ok (.getfield 37, 3) := by decide +kernel
theorem dX3_measureBesides_12 : decode cX3_measureBesides 12 = .ok (.if_icmp .ge 56, 3) := by decide +kernel
theorem dX3_measureBesides_15 : decode cX3_measureBesides 15 = .ok (.aload_n 0, 1) := by decide +kernel
theorem dX3_measureBesides_16 : decode cX3_measureBesides 16 = .ok (.getfield 15, 3) := by decide +kernel
theorem dX3_measureBesides_19 : decode cX3_measureBesides 19 = .ok (.iload_n 2, 1) := by decide +kernel
theorem dX3_measureBesides_20 : decode cX3_measureBesides 20 = .ok (.iaload, 1) := by decide +kernel
theorem dX3_measureBesides_21 : decode cX3_measureBesides 21 = .ok (.istore_n 3, 1) := by decide +kernel
theorem dX3_measureBesides_22 : decode cX3_measureBesides 22 = .ok (.iload_n 3, 1) := by decide +kernel
theorem dX3_measureBesides_23 : decode cX3_measureBesides 23 = .ok (.ifCond .ne 7, 3) := by decide +kernel
theorem dX3_measureBesides_26 : decode cX3_measureBesides 26 = .ok (.iconst 0, 1) := by decide +kernel
theorem dX3_measureBesides_27 : decode cX3_measureBesides 27 = .ok (.goto 20, 3) := by decide +kernel
theorem dX3_measureBesides_30 : decode cX3_measureBesides 30 = .ok (.aload_n 0, 1) := by decide +kernel
theorem dX3_measureBesides_31 : decode cX3_measureBesides 31 = .ok (.getfield 28, 3) := by decide +kernel
theorem dX3_measureBesides_34 : decode cX3_measureBesides 34 = .ok (.iload_n 2, 1) := by decide +kernel
theorem dX3_measureBesides_35 : decode cX3_measureBesides 35 = .ok (.aload_n 0, 1) := by decide +kernel
theorem dX3_measureBesides_36 : decode cX3_measureBesides 36 = .ok (.getfield 9, 3) := by decide +kernel
theorem dX3_measureBesides_39 : decode cX3_measureBesides 39 = .ok (.iload_n 3, 1) := by decide +kernel
theorem dX3_measureBesides_40 : decode cX3_measureBesides 40 = .ok (.iconst 1, 1) := by decide +kernel
theorem dX3_measureBesides_41 : decode cX3_measureBesides 41 = .ok (.isub, 1) := by decide +kernel
theorem dX3_measureBesides_42 : decode cX3_measureBesides 42 = .ok (.iaload, 1) := by decide +kernel
theorem dX3_measureBesides_43 : decode cX3_measureBesides 43 = .ok (.iload_n 1, 1) := by decide +kernel
theorem dX3_measureBesides_44 : decode cX3_measureBesides 44 = .ok (.invokevirtual 57, 3) := by decide +kernel
theorem dX3_measureBesides_47 : decode cX3_measureBesides 47 = .ok (.istore_n 1, 1) := by decide +kernel
theorem dX3_measureBesides_48 : decode cX3_measureBesides 48 = .ok (.aload_n 0, 1) := by decide +kernel
theorem dX3_measureBesides_49 : decode cX3_measureBesides 49 = .ok (.getfield 18, 3) := by decide +kernel
theorem dX3_measureBesides_52 : decode cX3_measureBesides 52 = .ok (.iload_n 3, 1) := by decide +kernel
theorem dX3_measureBesides_53 : decode cX3_measureBesides 53 = .ok (.iload_n 1, 1) := by decide +kernel
theorem dX3_measureBesides_54 : decode cX3_measureBesides 54 = .ok (.iastore, 1) := by decide +kernel
theorem dX3_measureBesides_55 : decode cX3_measureBesides 55 = .ok (.iload_n 1, 1) := by decide +kernel
theorem dX3_measureBesides_56 : decode cX3_measureBesides 56 = .ok (.ifCond .le 6, 3) := by decide +kernel
theorem dX3_measureBesides_59 : decode cX3_measureBesides 59 = .ok (.iinc 1 (-1), 3) := by decide +kernel
theorem dX3_measureBesides_62 : decode cX3_measureBesides 62 = .ok (.iinc 2 1, 3) := by decide +kernel
theorem dX3_measureBesides_65 : decode cX3_measureBesides 65 = .ok (.goto (-61), 3) := by decide +kernel
theorem dX3_measureBesides_68 : decode cX3_measureBesides 68 = .ok (.return_, 1) := by decide +kernel
theorem dX3_countTexts_0 : decode cX3_countTexts 0 = .ok (.iconst 0, 1) := by decide +kernel
theorem dX3_countTexts_1 : decode cX3_countTexts 1 = .ok (.istore_n 3, 1) := by decide +kernel
theorem dX3_countTexts_2 : decode cX3_countTexts 2 = .ok (.iload_n 1, 1) := by decide +kernel
theorem dX3_countTexts_3 : decode cX3_countTexts 3 = .ok (.istore 4, 2) := by decide +kernel
theorem dX3_countTexts_5 : decode cX3_countTexts 5 = .ok (.iload 4, 2) := by decide +kernel
theorem dX3_countTexts_7 : decode cX3_countTexts 7 = .ok (.iload_n 2, 1) := by decide +kernel
theorem dX3_countTexts_8 : decode cX3_countTexts 8 = .ok (.if_icmp .ge 29, 3) := by decide +kernel
theorem dX3_countTexts_11 : decode cX3_countTexts 11 = .ok (.iload_n 3, 1) := by decide +kernel
theorem dX3_countTexts_12 : decode cX3_countTexts 12 = .ok (.iconst 1, 1) := by decide +kernel
theorem dX3_countTexts_13 : decode cX3_countTexts 13 = .ok (.aload_n 0, 1) := by decide +kernel
theorem dX3_countTexts_14 : decode cX3_countTexts 14 = .ok (.getfield 28, 3) := by decide +kernel
theorem dX3_countTexts_17 : decode cX3_countTexts 17 = .ok (.getfield 61, 3) := by decide +kernel
theorem dX3_countTexts_20 : decode cX3_countTexts 20 = .ok (.aload_n 0, 1) := by decide +kernel
theorem dX3_countTexts_21 : decode cX3_countTexts 21 = .ok (.getfield 9, 3) := by decide +kernel
theorem dX3_countTexts_24 : decode cX3_countTexts 24 = .ok (.iload 4, 2) := by decide +kernel
theorem dX3_countTexts_26 : decode cX3_countTexts 26 = .ok (.iaload, 1) := by decide +kernel
theorem dX3_countTexts_27 : decode cX3_countTexts 27 = .ok (.iaload, 1) := by decide +kernel
theorem dX3_countTexts_28 : decode cX3_countTexts 28 = .ok (.ishl, 1) := by decide +kernel
theorem dX3_countTexts_29 : decode cX3_countTexts 29 = .ok (.ior, 1) := by decide +kernel
theorem dX3_countTexts_30 : decode cX3_countTexts 30 = .ok (.istore_n 3, 1) := by decide +kernel
theorem dX3_countTexts_31 : decode cX3_countTexts 31 = .ok (.iinc 4 1, 3) := by decide +kernel
theorem dX3_countTexts_34 : decode cX3_countTexts 34 = .ok (.goto (-29), 3) := by decide +kernel
theorem dX3_countTexts_37 : decode cX3_countTexts 37 = .ok (.iload_n 3, 1) := by decide +kernel
theorem dX3_countTexts_38 : decode cX3_countTexts 38 = .ok (.invokestatic 64, 3) := by decide +kernel
theorem dX3_countTexts_41 : decode cX3_countTexts 41 = .ok (.ireturn, 1) := by decide +kernel
theorem dX3_leastPlace_0 : decode cX3_leastPlace 0 = .ok (.iconst (-1), 1) := by decide +kernel
theorem dX3_leastPlace_1 : decode cX3_leastPlace 1 = .ok (.istore_n 3, 1) := by decide +kernel
theorem dX3_leastPlace_2 : decode cX3_leastPlace 2 = .ok (.iload_n 1, 1) := by decide +kernel
theorem dX3_leastPlace_3 : decode cX3_leastPlace 3 = .ok (.istore 4, 2) := by decide +kernel
theorem dX3_leastPlace_5 : decode cX3_leastPlace 5 = .ok (.iload 4, 2) := by decide +kernel
theorem dX3_leastPlace_7 : decode cX3_leastPlace 7 = .ok (.iload_n 2, 1) := by decide +kernel
theorem dX3_leastPlace_8 : decode cX3_leastPlace 8 = .ok (.if_icmp .ge 33, 3) := by decide +kernel
theorem dX3_leastPlace_11 : decode cX3_leastPlace 11 = .ok (.iload_n 3, 1) := by decide +kernel
theorem dX3_leastPlace_12 : decode cX3_leastPlace 12 = .ok (.iconst (-1), 1) := by decide +kernel
theorem dX3_leastPlace_13 : decode cX3_leastPlace 13 = .ok (.if_icmp .eq 14, 3) := by decide +kernel
theorem dX3_leastPlace_16 : decode cX3_leastPlace 16 = .ok (.aload_n 0, 1) := by decide +kernel
theorem dX3_leastPlace_17 : decode cX3_leastPlace 17 = .ok (.getfield 9, 3) := by decide +kernel
theorem dX3_leastPlace_20 : decode cX3_leastPlace 20 = .ok (.iload 4, 2) := by decide +kernel
theorem dX3_leastPlace_22 : decode cX3_leastPlace 22 = .ok (.iaload, 1) := by decide +kernel
theorem dX3_leastPlace_23 : decode cX3_leastPlace 23 = .ok (.iload_n 3, 1) := by decide +kernel
theorem dX3_leastPlace_24 : decode cX3_leastPlace 24 = .ok (.if_icmp .ge 11, 3) := by decide +kernel
theorem dX3_leastPlace_27 : decode cX3_leastPlace 27 = .ok (.aload_n 0, 1) := by decide +kernel
theorem dX3_leastPlace_28 : decode cX3_leastPlace 28 = .ok (.getfield 9, 3) := by decide +kernel
theorem dX3_leastPlace_31 : decode cX3_leastPlace 31 = .ok (.iload 4, 2) := by decide +kernel
theorem dX3_leastPlace_33 : decode cX3_leastPlace 33 = .ok (.iaload, 1) := by decide +kernel
theorem dX3_leastPlace_34 : decode cX3_leastPlace 34 = .ok (.istore_n 3, 1) := by decide +kernel
theorem dX3_leastPlace_35 : decode cX3_leastPlace 35 = .ok (.iinc 4 1, 3) := by decide +kernel
theorem dX3_leastPlace_38 : decode cX3_leastPlace 38 = .ok (.goto (-33), 3) := by decide +kernel
theorem dX3_leastPlace_41 : decode cX3_leastPlace 41 = .ok (.iload_n 3, 1) := by decide +kernel
theorem dX3_leastPlace_42 : decode cX3_leastPlace 42 = .ok (.ireturn, 1) := by decide +kernel
theorem dX3_greatestPlace_0 : decode cX3_greatestPlace 0 = .ok (.iconst (-1), 1) := by decide +kernel
theorem dX3_greatestPlace_1 : decode cX3_greatestPlace 1 = .ok (.istore_n 3, 1) := by decide +kernel
theorem dX3_greatestPlace_2 : decode cX3_greatestPlace 2 = .ok (.iload_n 1, 1) := by decide +kernel
theorem dX3_greatestPlace_3 : decode cX3_greatestPlace 3 = .ok (.istore 4, 2) := by decide +kernel
theorem dX3_greatestPlace_5 : decode cX3_greatestPlace 5 = .ok (.iload 4, 2) := by decide +kernel
theorem dX3_greatestPlace_7 : decode cX3_greatestPlace 7 = .ok (.iload_n 2, 1) := by decide +kernel
theorem dX3_greatestPlace_8 : decode cX3_greatestPlace 8 = .ok (.if_icmp .ge 21, 3) := by decide +kernel
theorem dX3_greatestPlace_11 : decode cX3_greatestPlace 11 = .ok (.iload_n 3, 1) := by decide +kernel
theorem dX3_greatestPlace_12 : decode cX3_greatestPlace 12 = .ok (.aload_n 0, 1) := by decide +kernel
theorem dX3_greatestPlace_13 : decode cX3_greatestPlace 13 = .ok (.getfield 9, 3) := by decide +kernel
theorem dX3_greatestPlace_16 : decode cX3_greatestPlace 16 = .ok (.iload 4, 2) := by decide +kernel
theorem dX3_greatestPlace_18 : decode cX3_greatestPlace 18 = .ok (.iaload, 1) := by decide +kernel
theorem dX3_greatestPlace_19 : decode cX3_greatestPlace 19 = .ok (.invokestatic 70, 3) := by decide +kernel
theorem dX3_greatestPlace_22 : decode cX3_greatestPlace 22 = .ok (.istore_n 3, 1) := by decide +kernel
theorem dX3_greatestPlace_23 : decode cX3_greatestPlace 23 = .ok (.iinc 4 1, 3) := by decide +kernel
theorem dX3_greatestPlace_26 : decode cX3_greatestPlace 26 = .ok (.goto (-21), 3) := by decide +kernel
theorem dX3_greatestPlace_29 : decode cX3_greatestPlace 29 = .ok (.iload_n 3, 1) := by decide +kernel
theorem dX3_greatestPlace_30 : decode cX3_greatestPlace 30 = .ok (.ireturn, 1) := by decide +kernel
theorem dX5_init_0 : decode cX5_init 0 = .ok (.aload_n 0, 1) := by decide +kernel
theorem dX5_init_1 : decode cX5_init 1 = .ok (.invokespecial 3, 3) := by decide +kernel
theorem dX5_init_4 : decode cX5_init 4 = .ok (.aload_n 0, 1) := by decide +kernel
theorem dX5_init_5 : decode cX5_init 5 = .ok (.aload_n 1, 1) := by decide +kernel
theorem dX5_init_6 : decode cX5_init 6 = .ok (.putfield 9, 3) := by decide +kernel
theorem dX5_init_9 : decode cX5_init 9 = .ok (.aload_n 0, 1) := by decide +kernel
theorem dX5_init_10 : decode cX5_init 10 = .ok (.aload_n 2, 1) := by decide +kernel
theorem dX5_init_11 : decode cX5_init 11 = .ok (.putfield 15, 3) := by decide +kernel
theorem dX5_init_14 : decode cX5_init 14 = .ok (.return_, 1) := by decide +kernel
theorem dX5_countAll_0 : decode cX5_countAll 0 = .ok (.lconst 0, 1) := by decide +kernel
theorem dX5_countAll_1 : decode cX5_countAll 1 = .ok (.lstore_n 1, 1) := by decide +kernel
theorem dX5_countAll_2 : decode cX5_countAll 2 = .ok (.iconst 0, 1) := by decide +kernel
theorem dX5_countAll_3 : decode cX5_countAll 3 = .ok (.istore_n 3, 1) := by decide +kernel
theorem dX5_countAll_4 : decode cX5_countAll 4 = .ok (.iload_n 3, 1) := by decide +kernel
theorem dX5_countAll_5 : decode cX5_countAll 5 = .ok (.aload_n 0, 1) := by decide +kernel
theorem dX5_countAll_6 : decode cX5_countAll 6 = .ok (.getfield 9, 3) := by decide +kernel
theorem dX5_countAll_9 : decode cX5_countAll 9 = .ok (.getfield 19, 3) := by decide +kernel
theorem dX5_countAll_12 : decode cX5_countAll 12 = .ok (.if_icmp .ge 39, 3) := by decide +kernel
theorem dX5_countAll_15 : decode cX5_countAll 15 = .ok (.lload_n 1, 1) := by decide +kernel
theorem dX5_countAll_16 : decode cX5_countAll 16 = .ok (.aload_n 0, 1) := by decide +kernel
theorem dX5_countAll_17 : decode cX5_countAll 17 = .ok (.getfield 9, 3) := by decide +kernel
theorem dX5_countAll_20 : decode cX5_countAll 20 = .ok (.aload_n 0, 1) := by decide +kernel
theorem dX5_countAll_21 : decode cX5_countAll 21 = .ok (.getfield 15, 3) := by decide +kernel
theorem dX5_countAll_24 : decode cX5_countAll 24 = .ok (.getfield 25, 3) := by decide +kernel
theorem dX5_countAll_27 : decode cX5_countAll 27 = .ok (.iload_n 3, 1) := by decide +kernel
theorem dX5_countAll_28 : decode cX5_countAll 28 = .ok (.iaload, 1) := by decide +kernel
theorem dX5_countAll_29 : decode cX5_countAll 29 = .ok (.invokevirtual 31, 3) := by decide +kernel
theorem dX5_countAll_32 : decode cX5_countAll 32 = .ok (.aload_n 0, 1) := by decide +kernel
theorem dX5_countAll_33 : decode cX5_countAll 33 = .ok (.getfield 15, 3) := by decide +kernel
theorem dX5_countAll_36 : decode cX5_countAll 36 = .ok (.getfield 35, 3) := by decide +kernel
theorem dX5_countAll_39 : decode cX5_countAll 39 = .ok (.iload_n 3, 1) := by decide +kernel
theorem dX5_countAll_40 : decode cX5_countAll 40 = .ok (.iaload, 1) := by decide +kernel
theorem dX5_countAll_41 : decode cX5_countAll 41 = .ok (.isub, 1) := by decide +kernel
theorem dX5_countAll_42 : decode cX5_countAll 42 = .ok (.i2l, 1) := by decide +kernel
theorem dX5_countAll_43 : decode cX5_countAll 43 = .ok (.ladd, 1) := by decide +kernel
theorem dX5_countAll_44 : decode cX5_countAll 44 = .ok (.lstore_n 1, 1) := by decide +kernel
theorem dX5_countAll_45 : decode cX5_countAll 45 = .ok (.iinc 3 1, 3) := by decide +kernel
theorem dX5_countAll_48 : decode cX5_countAll 48 = .ok (.goto (-44), 3) := by decide +kernel
theorem dX5_countAll_51 : decode cX5_countAll 51 = .ok (.lload_n 1, 1) := by decide +kernel
theorem dX5_countAll_52 : decode cX5_countAll 52 = .ok (.lreturn, 1) := by decide +kernel
theorem dX5_countStanding_0 : decode cX5_countStanding 0 = .ok (.iconst 0, 1) := by decide +kernel
theorem dX5_countStanding_1 : decode cX5_countStanding 1 = .ok (.istore_n 3, 1) := by decide +kernel
theorem dX5_countStanding_2 : decode cX5_countStanding 2 = .ok (.iconst 0, 1) := by decide +kernel
theorem dX5_countStanding_3 : decode cX5_countStanding 3 = .ok (.istore 4, 2) := by decide +kernel
theorem dX5_countStanding_5 : decode cX5_countStanding 5 = .ok (.iconst 1, 1) := by decide +kernel
theorem dX5_countStanding_6 : decode cX5_countStanding 6 = .ok (.istore 5, 2) := by decide +kernel
theorem dX5_countStanding_8 : decode cX5_countStanding 8 = .ok (.iload 5, 2) := by decide +kernel
theorem dX5_countStanding_10 : decode cX5_countStanding 10 = .ok (.aload_n 0, 1) := by decide +kernel
theorem dX5_countStanding_11 : decode cX5_countStanding 11 = .ok (.getfield 9, 3) := by decide +kernel
theorem dX5_countStanding_14 : decode cX5_countStanding 14 = .ok (.getfield 19, 3) := by decide +kernel
theorem dX5_countStanding_17 : decode cX5_countStanding 17 = .ok (.if_icmp .gt 40, 3) := by decide +kernel
theorem dX5_countStanding_20 : decode cX5_countStanding 20 = .ok (.aload_n 0, 1) := by decide +kernel
theorem dX5_countStanding_21 : decode cX5_countStanding 21 = .ok (.iload 5, 2) := by decide +kernel
theorem dX5_countStanding_23 : decode cX5_countStanding 23 = .ok (.iload_n 1, 1) := by decide +kernel
theorem dX5_countStanding_24 : decode cX5_countStanding 24 = .ok (.invokevirtual 38, 3) := by decide +kernel
theorem dX5_countStanding_27 : decode cX5_countStanding 27 = .ok (.ifCond .eq 24, 3) := by decide +kernel
theorem dX5_countStanding_30 : decode cX5_countStanding 30 = .ok (.aload_n 0, 1) := by decide +kernel
theorem dX5_countStanding_31 : decode cX5_countStanding 31 = .ok (.iload 4, 2) := by decide +kernel
theorem dX5_countStanding_33 : decode cX5_countStanding 33 = .ok (.iload 5, 2) := by decide +kernel
theorem dX5_countStanding_35 : decode cX5_countStanding 35 = .ok (.iload_n 1, 1) := by decide +kernel
theorem dX5_countStanding_36 : decode cX5_countStanding 36 = .ok (.iload_n 2, 1) := by decide +kernel
theorem dX5_countStanding_37 : decode cX5_countStanding 37 = .ok (.iconst 0, 1) := by decide +kernel
theorem dX5_countStanding_38 : decode cX5_countStanding 38 = .ok (.invokevirtual 42, 3) := by decide +kernel
theorem dX5_countStanding_41 : decode cX5_countStanding 41 = .ok (.ifCond .eq 6, 3) := by decide +kernel
theorem dX5_countStanding_44 : decode cX5_countStanding 44 = .ok (.iinc 3 1, 3) := by decide +kernel
theorem dX5_countStanding_47 : decode cX5_countStanding 47 = .ok (.iload 5, 2) := by decide +kernel
theorem dX5_countStanding_49 : decode cX5_countStanding 49 = .ok (.istore 4, 2) := by decide +kernel
theorem dX5_countStanding_51 : decode cX5_countStanding 51 = .ok (.iinc 5 1, 3) := by decide +kernel
theorem dX5_countStanding_54 : decode cX5_countStanding 54 = .ok (.goto (-46), 3) := by decide +kernel
theorem dX5_countStanding_57 : decode cX5_countStanding 57 = .ok (.iload_n 3, 1) := by decide +kernel
theorem dX5_countStanding_58 : decode cX5_countStanding 58 = .ok (.ireturn, 1) := by decide +kernel
theorem dX5_tellLongest_0 : decode cX5_tellLongest 0 = .ok (.aload_n 0, 1) := by decide +kernel
theorem dX5_tellLongest_1 : decode cX5_tellLongest 1 = .ok (.iload_n 1, 1) := by decide +kernel
theorem dX5_tellLongest_2 : decode cX5_tellLongest 2 = .ok (.iload_n 2, 1) := by decide +kernel
theorem dX5_tellLongest_3 : decode cX5_tellLongest 3 = .ok (.invokevirtual 46, 3) := by decide +kernel
theorem dX5_tellLongest_6 : decode cX5_tellLongest 6 = .ok (.istore 4, 2) := by decide +kernel
theorem dX5_tellLongest_8 : decode cX5_tellLongest 8 = .ok (.iload_n 3, 1) := by decide +kernel
theorem dX5_tellLongest_9 : decode cX5_tellLongest 9 = .ok (.ifCond .ne 6, 3) := by decide +kernel
theorem dX5_tellLongest_12 : decode cX5_tellLongest 12 = .ok (.iload 4, 2) := by decide +kernel
theorem dX5_tellLongest_14 : decode cX5_tellLongest 14 = .ok (.ireturn, 1) := by decide +kernel
theorem dX5_tellLongest_15 : decode cX5_tellLongest 15 = .ok (.iload 4, 2) := by decide +kernel
theorem dX5_tellLongest_17 : decode cX5_tellLongest 17 = .ok (.ifCond .ne 5, 3) := by decide +kernel
theorem dX5_tellLongest_20 : decode cX5_tellLongest 20 = .ok (.iconst (-1), 1) := by decide +kernel
theorem dX5_tellLongest_21 : decode cX5_tellLongest 21 = .ok (.ireturn, 1) := by decide +kernel
theorem dX5_tellLongest_22 : decode cX5_tellLongest 22 = .ok (.aload_n 0, 1) := by decide +kernel
theorem dX5_tellLongest_23 : decode cX5_tellLongest 23 = .ok (.iload 4, 2) := by decide +kernel
theorem dX5_tellLongest_25 : decode cX5_tellLongest 25 = .ok (.iload_n 1, 1) := by decide +kernel
theorem dX5_tellLongest_26 : decode cX5_tellLongest 26 = .ok (.iload_n 2, 1) := by decide +kernel
theorem dX5_tellLongest_27 : decode cX5_tellLongest 27 = .ok (.invokevirtual 50, 3) := by decide +kernel
theorem dX5_tellLongest_30 : decode cX5_tellLongest 30 = .ok (.istore 5, 2) := by decide +kernel
theorem dX5_tellLongest_32 : decode cX5_tellLongest 32 = .ok (.aload_n 0, 1) := by decide +kernel
theorem dX5_tellLongest_33 : decode cX5_tellLongest 33 = .ok (.iload 5, 2) := by decide +kernel
theorem dX5_tellLongest_35 : decode cX5_tellLongest 35 = .ok (.iload 4, 2) := by decide +kernel
theorem dX5_tellLongest_37 : decode cX5_tellLongest 37 = .ok (.invokevirtual 54, 3) := by decide +kernel
theorem dX5_tellLongest_40 : decode cX5_tellLongest 40 = .ok (.istore 6, 2) := by decide +kernel
theorem dX5_tellLongest_42 : decode cX5_tellLongest 42 = .ok (.iload_n 3, 1) := by decide +kernel
theorem dX5_tellLongest_43 : decode cX5_tellLongest 43 = .ok (.iconst 1, 1) := by decide +kernel
theorem dX5_tellLongest_44 : decode cX5_tellLongest 44 = .ok (.if_icmp .ne 15, 3) := by decide +kernel
theorem dX5_tellLongest_47 : decode cX5_tellLongest 47 = .ok (.aload_n 0, 1) := by decide +kernel
theorem dX5_tellLongest_48 : decode cX5_tellLongest 48 = .ok (.getfield 15, 3) := by decide +kernel
theorem dX5_tellLongest_51 : decode cX5_tellLongest 51 = .ok (.iload 6, 2) := by decide +kernel
theorem dX5_tellLongest_53 : decode cX5_tellLongest 53 = .ok (.iload 5, 2) := by decide +kernel
theorem dX5_tellLongest_55 : decode cX5_tellLongest 55 = .ok (.invokevirtual 58, 3) := by decide +kernel
theorem dX5_tellLongest_58 : decode cX5_tellLongest 58 = .ok (.ireturn, 1) := by decide +kernel
theorem dX5_tellLongest_59 : decode cX5_tellLongest 59 = .ok (.iload_n 3, 1) := by decide +kernel
theorem dX5_tellLongest_60 : decode cX5_tellLongest 60 = .ok (.iconst 2, 1) := by decide +kernel
theorem dX5_tellLongest_61 : decode cX5_tellLongest 61 = .ok (.if_icmp .ne 11, 3) := by decide +kernel
theorem dX5_tellLongest_64 : decode cX5_tellLongest 64 = .ok (.iload 5, 2) := by decide +kernel
theorem dX5_tellLongest_66 : decode cX5_tellLongest 66 = .ok (.iload 6, 2) := by decide +kernel
theorem dX5_tellLongest_68 : decode cX5_tellLongest 68 = .ok (.isub, 1) := by decide +kernel
theorem dX5_tellLongest_69 : decode cX5_tellLongest 69 = .ok (.goto 14, 3) := by decide +kernel
theorem dX5_tellLongest_72 : decode cX5_tellLongest 72 = .ok (.aload_n 0, 1) := by decide +kernel
theorem dX5_tellLongest_73 : decode cX5_tellLongest 73 = .ok (.getfield 15, 3) := by decide +kernel
theorem dX5_tellLongest_76 : decode cX5_tellLongest 76 = .ok (.iload 6, 2) := by decide +kernel
theorem dX5_tellLongest_78 : decode cX5_tellLongest 78 = .ok (.iload 5, 2) := by decide +kernel
theorem dX5_tellLongest_80 : decode cX5_tellLongest 80 = .ok (.invokevirtual 61, 3) := by decide +kernel
theorem dX5_tellLongest_83 : decode cX5_tellLongest 83 = .ok (.ireturn, 1) := by decide +kernel
theorem dX5_longestLength_0 : decode cX5_longestLength 0 = .ok (.iconst 0, 1) := by decide +kernel
theorem dX5_longestLength_1 : decode cX5_longestLength 1 = .ok (.istore_n 3, 1) := by decide +kernel
theorem dX5_longestLength_2 : decode cX5_longestLength 2 = .ok (.aload_n 0, 1) := by decide +kernel
theorem dX5_longestLength_3 : decode cX5_longestLength 3 = .ok (.getfield 9, 3) := by decide +kernel
theorem dX5_longestLength_6 : decode cX5_longestLength 6 = .ok (.getfield 19, 3) := by decide +kernel
theorem dX5_longestLength_9 : decode cX5_longestLength 9 = .ok (.istore 4, 2) := by decide +kernel
theorem dX5_longestLength_11 : decode cX5_longestLength 11 = .ok (.iload_n 3, 1) := by decide +kernel
theorem dX5_longestLength_12 : decode cX5_longestLength 12 = .ok (.iload 4, 2) := by decide +kernel
theorem dX5_longestLength_14 : decode cX5_longestLength 14 = .ok (.if_icmp .ge 40, 3) := by decide +kernel
theorem dX5_longestLength_17 : decode cX5_longestLength 17 = .ok (.iload_n 3, 1) := by decide +kernel
theorem dX5_longestLength_18 : decode cX5_longestLength 18 = .ok (.iload 4, 2) := by decide +kernel
theorem dX5_longestLength_20 : decode cX5_longestLength 20 = .ok (.iadd, 1) := by decide +kernel
theorem dX5_longestLength_21 : decode cX5_longestLength 21 = .ok (.iconst 1, 1) := by decide +kernel
theorem dX5_longestLength_22 : decode cX5_longestLength 22 = .ok (.iadd, 1) := by decide +kernel
theorem dX5_longestLength_23 : decode cX5_longestLength 23 = .ok (.iconst 2, 1) := by decide +kernel
theorem dX5_longestLength_24 : decode cX5_longestLength 24 = .ok (.idiv, 1) := by decide +kernel
theorem dX5_longestLength_25 : decode cX5_longestLength 25 = .ok (.istore 5, 2) := by decide +kernel
theorem dX5_longestLength_27 : decode cX5_longestLength 27 = .ok (.aload_n 0, 1) := by decide +kernel
theorem dX5_longestLength_28 : decode cX5_longestLength 28 = .ok (.iload 5, 2) := by decide +kernel
theorem dX5_longestLength_30 : decode cX5_longestLength 30 = .ok (.iload_n 1, 1) := by decide +kernel
theorem dX5_longestLength_31 : decode cX5_longestLength 31 = .ok (.iload_n 2, 1) := by decide +kernel
theorem dX5_longestLength_32 : decode cX5_longestLength 32 = .ok (.invokevirtual 50, 3) := by decide +kernel
theorem dX5_longestLength_35 : decode cX5_longestLength 35 = .ok (.iconst (-1), 1) := by decide +kernel
theorem dX5_longestLength_36 : decode cX5_longestLength 36 = .ok (.if_icmp .eq 9, 3) := by decide +kernel
theorem dX5_longestLength_39 : decode cX5_longestLength 39 = .ok (.iload 5, 2) := by decide +kernel
theorem dX5_longestLength_41 : decode cX5_longestLength 41 = .ok (.istore_n 3, 1) := by decide +kernel
theorem dX5_longestLength_42 : decode cX5_longestLength 42 = .ok (.goto 9, 3) := by decide +kernel
theorem dX5_longestLength_45 : decode cX5_longestLength 45 = .ok (.iload 5, 2) := by decide +kernel
theorem dX5_longestLength_47 : decode cX5_longestLength 47 = .ok (.iconst 1, 1) := by decide +kernel
theorem dX5_longestLength_48 : decode cX5_longestLength 48 = .ok (.isub, 1) := by decide +kernel
theorem dX5_longestLength_49 : decode cX5_longestLength 49 = .ok (.istore 4, 2) := by decide +kernel
theorem dX5_longestLength_51 : decode cX5_longestLength 51 = .ok (.goto (-40), 3) := by decide +kernel
theorem dX5_longestLength_54 : decode cX5_longestLength 54 = .ok (.iload_n 3, 1) := by decide +kernel
theorem dX5_longestLength_55 : decode cX5_longestLength 55 = .ok (.ireturn, 1) := by decide +kernel
theorem dX5_firstRunEnd_0 : decode cX5_firstRunEnd 0 = .ok (.iconst 0, 1) := by decide +kernel
theorem dX5_firstRunEnd_1 : decode cX5_firstRunEnd 1 = .ok (.istore 4, 2) := by decide +kernel
theorem dX5_firstRunEnd_3 : decode cX5_firstRunEnd 3 = .ok (.iconst 1, 1) := by decide +kernel
theorem dX5_firstRunEnd_4 : decode cX5_firstRunEnd 4 = .ok (.istore 5, 2) := by decide +kernel
theorem dX5_firstRunEnd_6 : decode cX5_firstRunEnd 6 = .ok (.iload 5, 2) := by decide +kernel
theorem dX5_firstRunEnd_8 : decode cX5_firstRunEnd 8 = .ok (.aload_n 0, 1) := by decide +kernel
theorem dX5_firstRunEnd_9 : decode cX5_firstRunEnd 9 = .ok (.getfield 9, 3) := by decide +kernel
theorem dX5_firstRunEnd_12 : decode cX5_firstRunEnd 12 = .ok (.getfield 19, 3) := by decide +kernel
theorem dX5_firstRunEnd_15 : decode cX5_firstRunEnd 15 = .ok (.if_icmp .gt 40, 3) := by decide +kernel
theorem dX5_firstRunEnd_18 : decode cX5_firstRunEnd 18 = .ok (.aload_n 0, 1) := by decide +kernel
theorem dX5_firstRunEnd_19 : decode cX5_firstRunEnd 19 = .ok (.iload 5, 2) := by decide +kernel
theorem dX5_firstRunEnd_21 : decode cX5_firstRunEnd 21 = .ok (.iload_n 1, 1) := by decide +kernel
theorem dX5_firstRunEnd_22 : decode cX5_firstRunEnd 22 = .ok (.invokevirtual 38, 3) := by decide +kernel
theorem dX5_firstRunEnd_25 : decode cX5_firstRunEnd 25 = .ok (.ifCond .eq 24, 3) := by decide +kernel
theorem dX5_firstRunEnd_28 : decode cX5_firstRunEnd 28 = .ok (.aload_n 0, 1) := by decide +kernel
theorem dX5_firstRunEnd_29 : decode cX5_firstRunEnd 29 = .ok (.iload 4, 2) := by decide +kernel
theorem dX5_firstRunEnd_31 : decode cX5_firstRunEnd 31 = .ok (.iload 5, 2) := by decide +kernel
theorem dX5_firstRunEnd_33 : decode cX5_firstRunEnd 33 = .ok (.iload_n 1, 1) := by decide +kernel
theorem dX5_firstRunEnd_34 : decode cX5_firstRunEnd 34 = .ok (.iload_n 2, 1) := by decide +kernel
theorem dX5_firstRunEnd_35 : decode cX5_firstRunEnd 35 = .ok (.iload_n 3, 1) := by decide +kernel
theorem dX5_firstRunEnd_36 : decode cX5_firstRunEnd 36 = .ok (.invokevirtual 42, 3) := by decide +kernel
theorem dX5_firstRunEnd_39 : decode cX5_firstRunEnd 39 = .ok (.ifCond .eq 6, 3) := by decide +kernel
theorem dX5_firstRunEnd_42 : decode cX5_firstRunEnd 42 = .ok (.iload 5, 2) := by decide +kernel
theorem dX5_firstRunEnd_44 : decode cX5_firstRunEnd 44 = .ok (.ireturn, 1) := by decide +kernel
theorem dX5_firstRunEnd_45 : decode cX5_firstRunEnd 45 = .ok (.iload 5, 2) := by decide +kernel
theorem dX5_firstRunEnd_47 : decode cX5_firstRunEnd 47 = .ok (.istore 4, 2) := by decide +kernel
theorem dX5_firstRunEnd_49 : decode cX5_firstRunEnd 49 = .ok (.iinc 5 1, 3) := by decide +kernel
theorem dX5_firstRunEnd_52 : decode cX5_firstRunEnd 52 = .ok (.goto (-46), 3) := by decide +kernel
theorem dX5_firstRunEnd_55 : decode cX5_firstRunEnd 55 = .ok (.iconst (-1), 1) := by decide +kernel
theorem dX5_firstRunEnd_56 : decode cX5_firstRunEnd 56 = .ok (.ireturn, 1) := by decide +kernel
theorem dX5_runStart_0 : decode cX5_runStart 0 = .ok (.iload_n 1, 1) := by decide +kernel
theorem dX5_runStart_1 : decode cX5_runStart 1 = .ok (.iconst 1, 1) := by decide +kernel
theorem dX5_runStart_2 : decode cX5_runStart 2 = .ok (.isub, 1) := by decide +kernel
theorem dX5_runStart_3 : decode cX5_runStart 3 = .ok (.istore_n 3, 1) := by decide +kernel
theorem dX5_runStart_4 : decode cX5_runStart 4 = .ok (.iload_n 3, 1) := by decide +kernel
theorem dX5_runStart_5 : decode cX5_runStart 5 = .ok (.ifCond .le 22, 3) := by decide +kernel
theorem dX5_runStart_8 : decode cX5_runStart 8 = .ok (.aload_n 0, 1) := by decide +kernel
theorem dX5_runStart_9 : decode cX5_runStart 9 = .ok (.getfield 15, 3) := by decide +kernel
theorem dX5_runStart_12 : decode cX5_runStart 12 = .ok (.getfield 35, 3) := by decide +kernel
theorem dX5_runStart_15 : decode cX5_runStart 15 = .ok (.iload_n 3, 1) := by decide +kernel
theorem dX5_runStart_16 : decode cX5_runStart 16 = .ok (.iaload, 1) := by decide +kernel
theorem dX5_runStart_17 : decode cX5_runStart 17 = .ok (.iload_n 2, 1) := by decide +kernel
theorem dX5_runStart_18 : decode cX5_runStart 18 = .ok (.if_icmp .lt 9, 3) := by decide +kernel
theorem dX5_runStart_21 : decode cX5_runStart 21 = .ok (.iinc 3 (-1), 3) := by decide +kernel
theorem dX5_runStart_24 : decode cX5_runStart 24 = .ok (.goto (-20), 3) := by decide +kernel
theorem dX5_runStart_27 : decode cX5_runStart 27 = .ok (.iload_n 3, 1) := by decide +kernel
theorem dX5_runStart_28 : decode cX5_runStart 28 = .ok (.ireturn, 1) := by decide +kernel
theorem dX5_isRunEnd_0 : decode cX5_isRunEnd 0 = .ok (.iload_n 1, 1) := by decide +kernel
theorem dX5_isRunEnd_1 : decode cX5_isRunEnd 1 = .ok (.aload_n 0, 1) := by decide +kernel
theorem dX5_isRunEnd_2 : decode cX5_isRunEnd 2 = .ok (.getfield 9, 3) := by decide +kernel
theorem dX5_isRunEnd_5 : decode cX5_isRunEnd 5 = .ok (.getfield 19, 3) := by decide +kernel
theorem dX5_isRunEnd_8 : decode cX5_isRunEnd 8 = .ok (.if_icmp .eq 16, 3) := by decide +kernel
theorem dX5_isRunEnd_11 : decode cX5_isRunEnd 11 = .ok (.aload_n 0, 1) := by decide +kernel
theorem dX5_isRunEnd_12 : decode cX5_isRunEnd 12 = .ok (.getfield 15, 3) := by decide +kernel
theorem dX5_isRunEnd_15 : decode cX5_isRunEnd 15 = .ok (.getfield 35, 3) := by decide +kernel
theorem dX5_isRunEnd_18 : decode cX5_isRunEnd 18 = .ok (.iload_n 1, 1) := by decide +kernel
theorem dX5_isRunEnd_19 : decode cX5_isRunEnd 19 = .ok (.iaload, 1) := by decide +kernel
theorem dX5_isRunEnd_20 : decode cX5_isRunEnd 20 = .ok (.iload_n 2, 1) := by decide +kernel
theorem dX5_isRunEnd_21 : decode cX5_isRunEnd 21 = .ok (.if_icmp .ge 7, 3) := by decide +kernel
theorem dX5_isRunEnd_24 : decode cX5_isRunEnd 24 = .ok (.iconst 1, 1) := by decide +kernel
theorem dX5_isRunEnd_25 : decode cX5_isRunEnd 25 = .ok (.goto 4, 3) := by decide +kernel
theorem dX5_isRunEnd_28 : decode cX5_isRunEnd 28 = .ok (.iconst 0, 1) := by decide +kernel
theorem dX5_isRunEnd_29 : decode cX5_isRunEnd 29 = .ok (.ireturn, 1) := by decide +kernel
theorem dX5_isEnough_0 : decode cX5_isEnough 0 = .ok (.aload_n 0, 1) := by decide +kernel
theorem dX5_isEnough_1 : decode cX5_isEnough 1 = .ok (.getfield 9, 3) := by decide +kernel
theorem dX5_isEnough_4 : decode cX5_isEnough 4 = .ok (.aload_n 0, 1) := by decide +kernel
theorem dX5_isEnough_5 : decode cX5_isEnough 5 = .ok (.getfield 15, 3) := by decide +kernel
theorem dX5_isEnough_8 : decode cX5_isEnough 8 = .ok (.getfield 25, 3) := by decide +kernel
theorem dX5_isEnough_11 : decode cX5_isEnough 11 = .ok (.iload_n 1, 1) := by decide +kernel
theorem dX5_isEnough_12 : decode cX5_isEnough 12 = .ok (.iaload, 1) := by decide +kernel
theorem dX5_isEnough_13 : decode cX5_isEnough 13 = .ok (.invokevirtual 31, 3) := by decide +kernel
theorem dX5_isEnough_16 : decode cX5_isEnough 16 = .ok (.iload_n 3, 1) := by decide +kernel
theorem dX5_isEnough_17 : decode cX5_isEnough 17 = .ok (.if_icmp .ge 5, 3) := by decide +kernel
theorem dX5_isEnough_20 : decode cX5_isEnough 20 = .ok (.iconst 0, 1) := by decide +kernel
theorem dX5_isEnough_21 : decode cX5_isEnough 21 = .ok (.ireturn, 1) := by decide +kernel
theorem dX5_isEnough_22 : decode cX5_isEnough 22 = .ok (.iload 5, 2) := by decide +kernel
theorem dX5_isEnough_24 : decode cX5_isEnough 24 = .ok (.ifCond .eq 15, 3) := by decide +kernel
theorem dX5_isEnough_27 : decode cX5_isEnough 27 = .ok (.aload_n 0, 1) := by decide +kernel
theorem dX5_isEnough_28 : decode cX5_isEnough 28 = .ok (.getfield 15, 3) := by decide +kernel
theorem dX5_isEnough_31 : decode cX5_isEnough 31 = .ok (.iload_n 1, 1) := by decide +kernel
theorem dX5_isEnough_32 : decode cX5_isEnough 32 = .ok (.iload_n 2, 1) := by decide +kernel
theorem dX5_isEnough_33 : decode cX5_isEnough 33 = .ok (.invokevirtual 61, 3) := by decide +kernel
theorem dX5_isEnough_36 : decode cX5_isEnough 36 = .ok (.goto 6, 3) := by decide +kernel
theorem dX5_isEnough_39 : decode cX5_isEnough 39 = .ok (.iload_n 2, 1) := by decide +kernel
theorem dX5_isEnough_40 : decode cX5_isEnough 40 = .ok (.iload_n 1, 1) := by decide +kernel
theorem dX5_isEnough_41 : decode cX5_isEnough 41 = .ok (.isub, 1) := by decide +kernel
theorem dX5_isEnough_42 : decode cX5_isEnough 42 = .ok (.iload 4, 2) := by decide +kernel
theorem dX5_isEnough_44 : decode cX5_isEnough 44 = .ok (.if_icmp .lt 7, 3) := by decide +kernel
theorem dX5_isEnough_47 : decode cX5_isEnough 47 = .ok (.iconst 1, 1) := by decide +kernel
theorem dX5_isEnough_48 : decode cX5_isEnough 48 = .ok (.goto 4, 3) := by decide +kernel
theorem dX5_isEnough_51 : decode cX5_isEnough 51 = .ok (.iconst 0, 1) := by decide +kernel
theorem dX5_isEnough_52 : decode cX5_isEnough 52 = .ok (.ireturn, 1) := by decide +kernel
theorem dX6_init_0 : decode cX6_init 0 = .ok (.aload_n 0, 1) := by decide +kernel
theorem dX6_init_1 : decode cX6_init 1 = .ok (.invokespecial 3, 3) := by decide +kernel
theorem dX6_init_4 : decode cX6_init 4 = .ok (.aload_n 0, 1) := by decide +kernel
theorem dX6_init_5 : decode cX6_init 5 = .ok (.sipush 400, 3) := by decide +kernel
theorem dX6_init_8 : decode cX6_init 8 = .ok (.newarray .int, 2) := by decide +kernel
theorem dX6_init_10 : decode cX6_init 10 = .ok (.putfield 9, 3) := by decide +kernel
theorem dX6_init_13 : decode cX6_init 13 = .ok (.aload_n 0, 1) := by decide +kernel
theorem dX6_init_14 : decode cX6_init 14 = .ok (.bipush 8, 2) := by decide +kernel
theorem dX6_init_16 : decode cX6_init 16 = .ok (.newarray .int, 2) := by decide +kernel
theorem dX6_init_18 : decode cX6_init 18 = .ok (.putfield 15, 3) := by decide +kernel
theorem dX6_init_21 : decode cX6_init 21 = .ok (.return_, 1) := by decide +kernel
theorem dX6_endOf_0 : decode cX6_endOf 0 = .ok (.iconst 0, 1) := by decide +kernel
theorem dX6_endOf_1 : decode cX6_endOf 1 = .ok (.istore_n 2, 1) := by decide +kernel
theorem dX6_endOf_2 : decode cX6_endOf 2 = .ok (.iconst 0, 1) := by decide +kernel
theorem dX6_endOf_3 : decode cX6_endOf 3 = .ok (.istore_n 3, 1) := by decide +kernel
theorem dX6_endOf_4 : decode cX6_endOf 4 = .ok (.iload_n 3, 1) := by decide +kernel
theorem dX6_endOf_5 : decode cX6_endOf 5 = .ok (.iload_n 1, 1) := by decide +kernel
theorem dX6_endOf_6 : decode cX6_endOf 6 = .ok (.if_icmp .gt 18, 3) := by decide +kernel
theorem dX6_endOf_9 : decode cX6_endOf 9 = .ok (.iload_n 2, 1) := by decide +kernel
theorem dX6_endOf_10 : decode cX6_endOf 10 = .ok (.aload_n 0, 1) := by decide +kernel
theorem dX6_endOf_11 : decode cX6_endOf 11 = .ok (.getfield 15, 3) := by decide +kernel
theorem dX6_endOf_14 : decode cX6_endOf 14 = .ok (.iload_n 3, 1) := by decide +kernel
theorem dX6_endOf_15 : decode cX6_endOf 15 = .ok (.iaload, 1) := by decide +kernel
theorem dX6_endOf_16 : decode cX6_endOf 16 = .ok (.iadd, 1) := by decide +kernel
theorem dX6_endOf_17 : decode cX6_endOf 17 = .ok (.istore_n 2, 1) := by decide +kernel
theorem dX6_endOf_18 : decode cX6_endOf 18 = .ok (.iinc 3 1, 3) := by decide +kernel
theorem dX6_endOf_21 : decode cX6_endOf 21 = .ok (.goto (-17), 3) := by decide +kernel
theorem dX6_endOf_24 : decode cX6_endOf 24 = .ok (.iload_n 2, 1) := by decide +kernel
theorem dX6_endOf_25 : decode cX6_endOf 25 = .ok (.ireturn, 1) := by decide +kernel
theorem dX6_append_0 : decode cX6_append 0 = .ok (.iload_n 2, 1) := by decide +kernel
theorem dX6_append_1 : decode cX6_append 1 = .ok (.iconst (-1), 1) := by decide +kernel
theorem dX6_append_2 : decode cX6_append 2 = .ok (.if_icmp .eq 13, 3) := by decide +kernel
theorem dX6_append_5 : decode cX6_append 5 = .ok (.aload_n 0, 1) := by decide +kernel
theorem dX6_append_6 : decode cX6_append 6 = .ok (.getfield 18, 3) := by decide +kernel
theorem dX6_append_9 : decode cX6_append 9 = .ok (.sipush 400, 3) := by decide +kernel
theorem dX6_append_12 : decode cX6_append 12 = .ok (.if_icmp .lt 4, 3) := by decide +kernel
theorem dX6_append_15 : decode cX6_append 15 = .ok (.return_, 1) := by decide +kernel
theorem dX6_append_16 : decode cX6_append 16 = .ok (.aload_n 0, 1) := by decide +kernel
theorem dX6_append_17 : decode cX6_append 17 = .ok (.iload_n 1, 1) := by decide +kernel
theorem dX6_append_18 : decode cX6_append 18 = .ok (.invokevirtual 22, 3) := by decide +kernel
theorem dX6_append_21 : decode cX6_append 21 = .ok (.istore_n 3, 1) := by decide +kernel
theorem dX6_append_22 : decode cX6_append 22 = .ok (.aload_n 0, 1) := by decide +kernel
theorem dX6_append_23 : decode cX6_append 23 = .ok (.getfield 9, 3) := by decide +kernel
theorem dX6_append_26 : decode cX6_append 26 = .ok (.iload_n 3, 1) := by decide +kernel
theorem dX6_append_27 : decode cX6_append 27 = .ok (.aload_n 0, 1) := by decide +kernel
theorem dX6_append_28 : decode cX6_append 28 = .ok (.getfield 9, 3) := by decide +kernel
theorem dX6_append_31 : decode cX6_append 31 = .ok (.iload_n 3, 1) := by decide +kernel
theorem dX6_append_32 : decode cX6_append 32 = .ok (.iconst 1, 1) := by decide +kernel
theorem dX6_append_33 : decode cX6_append 33 = .ok (.iadd, 1) := by decide +kernel
theorem dX6_append_34 : decode cX6_append 34 = .ok (.aload_n 0, 1) := by decide +kernel
theorem dX6_append_35 : decode cX6_append 35 = .ok (.getfield 18, 3) := by decide +kernel
theorem dX6_append_38 : decode cX6_append 38 = .ok (.iload_n 3, 1) := by decide +kernel
theorem dX6_append_39 : decode cX6_append 39 = .ok (.isub, 1) := by decide +kernel
theorem dX6_append_40 : decode cX6_append 40 = .ok (.invokestatic 26, 3) := by decide +kernel
theorem dX6_append_43 : decode cX6_append 43 = .ok (.aload_n 0, 1) := by decide +kernel
theorem dX6_append_44 : decode cX6_append 44 = .ok (.getfield 9, 3) := by decide +kernel
theorem dX6_append_47 : decode cX6_append 47 = .ok (.iload_n 3, 1) := by decide +kernel
theorem dX6_append_48 : decode cX6_append 48 = .ok (.iload_n 2, 1) := by decide +kernel
theorem dX6_append_49 : decode cX6_append 49 = .ok (.iastore, 1) := by decide +kernel
theorem dX6_append_50 : decode cX6_append 50 = .ok (.aload_n 0, 1) := by decide +kernel
theorem dX6_append_51 : decode cX6_append 51 = .ok (.getfield 15, 3) := by decide +kernel
theorem dX6_append_54 : decode cX6_append 54 = .ok (.iload_n 1, 1) := by decide +kernel
theorem dX6_append_55 : decode cX6_append 55 = .ok (.dup2, 1) := by decide +kernel
theorem dX6_append_56 : decode cX6_append 56 = .ok (.iaload, 1) := by decide +kernel
theorem dX6_append_57 : decode cX6_append 57 = .ok (.iconst 1, 1) := by decide +kernel
theorem dX6_append_58 : decode cX6_append 58 = .ok (.iadd, 1) := by decide +kernel
theorem dX6_append_59 : decode cX6_append 59 = .ok (.iastore, 1) := by decide +kernel
theorem dX6_append_60 : decode cX6_append 60 = .ok (.aload_n 0, 1) := by decide +kernel
theorem dX6_append_61 : decode cX6_append 61 = .ok (.dup, 1) := by decide +kernel
theorem dX6_append_62 : decode cX6_append 62 = .ok (.getfield 18, 3) := by decide +kernel
theorem dX6_append_65 : decode cX6_append 65 = .ok (.iconst 1, 1) := by decide +kernel
theorem dX6_append_66 : decode cX6_append 66 = .ok (.iadd, 1) := by decide +kernel
theorem dX6_append_67 : decode cX6_append 67 = .ok (.putfield 18, 3) := by decide +kernel
theorem dX6_append_70 : decode cX6_append 70 = .ok (.return_, 1) := by decide +kernel
theorem dX6_dropLast_0 : decode cX6_dropLast 0 = .ok (.aload_n 0, 1) := by decide +kernel
theorem dX6_dropLast_1 : decode cX6_dropLast 1 = .ok (.iload_n 1, 1) := by decide +kernel
theorem dX6_dropLast_2 : decode cX6_dropLast 2 = .ok (.invokevirtual 22, 3) := by decide +kernel
theorem dX6_dropLast_5 : decode cX6_dropLast 5 = .ok (.istore_n 3, 1) := by decide +kernel
theorem dX6_dropLast_6 : decode cX6_dropLast 6 = .ok (.aload_n 0, 1) := by decide +kernel
theorem dX6_dropLast_7 : decode cX6_dropLast 7 = .ok (.getfield 9, 3) := by decide +kernel
theorem dX6_dropLast_10 : decode cX6_dropLast 10 = .ok (.iload_n 3, 1) := by decide +kernel
theorem dX6_dropLast_11 : decode cX6_dropLast 11 = .ok (.aload_n 0, 1) := by decide +kernel
theorem dX6_dropLast_12 : decode cX6_dropLast 12 = .ok (.getfield 9, 3) := by decide +kernel
theorem dX6_dropLast_15 : decode cX6_dropLast 15 = .ok (.iload_n 3, 1) := by decide +kernel
theorem dX6_dropLast_16 : decode cX6_dropLast 16 = .ok (.iload_n 2, 1) := by decide +kernel
theorem dX6_dropLast_17 : decode cX6_dropLast 17 = .ok (.isub, 1) := by decide +kernel
theorem dX6_dropLast_18 : decode cX6_dropLast 18 = .ok (.aload_n 0, 1) := by decide +kernel
theorem dX6_dropLast_19 : decode cX6_dropLast 19 = .ok (.getfield 18, 3) := by decide +kernel
theorem dX6_dropLast_22 : decode cX6_dropLast 22 = .ok (.iload_n 3, 1) := by decide +kernel
theorem dX6_dropLast_23 : decode cX6_dropLast 23 = .ok (.isub, 1) := by decide +kernel
theorem dX6_dropLast_24 : decode cX6_dropLast 24 = .ok (.invokestatic 26, 3) := by decide +kernel
theorem dX6_dropLast_27 : decode cX6_dropLast 27 = .ok (.aload_n 0, 1) := by decide +kernel
theorem dX6_dropLast_28 : decode cX6_dropLast 28 = .ok (.getfield 15, 3) := by decide +kernel
theorem dX6_dropLast_31 : decode cX6_dropLast 31 = .ok (.iload_n 1, 1) := by decide +kernel
theorem dX6_dropLast_32 : decode cX6_dropLast 32 = .ok (.dup2, 1) := by decide +kernel
theorem dX6_dropLast_33 : decode cX6_dropLast 33 = .ok (.iaload, 1) := by decide +kernel
theorem dX6_dropLast_34 : decode cX6_dropLast 34 = .ok (.iload_n 2, 1) := by decide +kernel
theorem dX6_dropLast_35 : decode cX6_dropLast 35 = .ok (.isub, 1) := by decide +kernel
theorem dX6_dropLast_36 : decode cX6_dropLast 36 = .ok (.iastore, 1) := by decide +kernel
theorem dX6_dropLast_37 : decode cX6_dropLast 37 = .ok (.aload_n 0, 1) := by decide +kernel
theorem dX6_dropLast_38 : decode cX6_dropLast 38 = .ok (.dup, 1) := by decide +kernel
theorem dX6_dropLast_39 : decode cX6_dropLast 39 = .ok (.getfield 18, 3) := by decide +kernel
theorem dX6_dropLast_42 : decode cX6_dropLast 42 = .ok (.iload_n 2, 1) := by decide +kernel
theorem dX6_dropLast_43 : decode cX6_dropLast 43 = .ok (.isub, 1) := by decide +kernel
theorem dX6_dropLast_44 : decode cX6_dropLast 44 = .ok (.putfield 18, 3) := by decide +kernel
theorem dX6_dropLast_47 : decode cX6_dropLast 47 = .ok (.return_, 1) := by decide +kernel
theorem dX7_init_0 : decode cX7_init 0 = .ok (.aload_n 0, 1) := by decide +kernel
theorem dX7_init_1 : decode cX7_init 1 = .ok (.invokespecial 3, 3) := by decide +kernel
theorem dX7_init_4 : decode cX7_init 4 = .ok (.aload_n 0, 1) := by decide +kernel
theorem dX7_init_5 : decode cX7_init 5 = .ok (.sipush 408, 3) := by decide +kernel
theorem dX7_init_8 : decode cX7_init 8 = .ok (.newarray .int, 2) := by decide +kernel
theorem dX7_init_10 : decode cX7_init 10 = .ok (.putfield 9, 3) := by decide +kernel
theorem dX7_init_13 : decode cX7_init 13 = .ok (.aload_n 0, 1) := by decide +kernel
theorem dX7_init_14 : decode cX7_init 14 = .ok (.sipush 408, 3) := by decide +kernel
theorem dX7_init_17 : decode cX7_init 17 = .ok (.newarray .int, 2) := by decide +kernel
theorem dX7_init_19 : decode cX7_init 19 = .ok (.putfield 15, 3) := by decide +kernel
theorem dX7_init_22 : decode cX7_init 22 = .ok (.aload_n 0, 1) := by decide +kernel
theorem dX7_init_23 : decode cX7_init 23 = .ok (.bipush 8, 2) := by decide +kernel
theorem dX7_init_25 : decode cX7_init 25 = .ok (.newarray .int, 2) := by decide +kernel
theorem dX7_init_27 : decode cX7_init 27 = .ok (.putfield 18, 3) := by decide +kernel
theorem dX7_init_30 : decode cX7_init 30 = .ok (.aload_n 0, 1) := by decide +kernel
theorem dX7_init_31 : decode cX7_init 31 = .ok (.bipush 8, 2) := by decide +kernel
theorem dX7_init_33 : decode cX7_init 33 = .ok (.newarray .int, 2) := by decide +kernel
theorem dX7_init_35 : decode cX7_init 35 = .ok (.putfield 21, 3) := by decide +kernel
theorem dX7_init_38 : decode cX7_init 38 = .ok (.return_, 1) := by decide +kernel
theorem dX7_lay_0 : decode cX7_lay 0 = .ok (.aload_n 0, 1) := by decide +kernel
theorem dX7_lay_1 : decode cX7_lay 1 = .ok (.iconst 0, 1) := by decide +kernel
theorem dX7_lay_2 : decode cX7_lay 2 = .ok (.putfield 24, 3) := by decide +kernel
theorem dX7_lay_5 : decode cX7_lay 5 = .ok (.iconst 0, 1) := by decide +kernel
theorem dX7_lay_6 : decode cX7_lay 6 = .ok (.istore_n 2, 1) := by decide +kernel
theorem dX7_lay_7 : decode cX7_lay 7 = .ok (.iconst 0, 1) := by decide +kernel
theorem dX7_lay_8 : decode cX7_lay 8 = .ok (.istore_n 3, 1) := by decide +kernel
theorem dX7_lay_9 : decode cX7_lay 9 = .ok (.iload_n 3, 1) := by decide +kernel
theorem dX7_lay_10 : decode cX7_lay 10 = .ok (.bipush 8, 2) := by decide +kernel
theorem dX7_lay_12 : decode cX7_lay 12 = .ok (.if_icmp .ge 81, 3) := by decide +kernel
theorem dX7_lay_15 : decode cX7_lay 15 = .ok (.aload_n 0, 1) := by decide +kernel
theorem dX7_lay_16 : decode cX7_lay 16 = .ok (.getfield 18, 3) := by decide +kernel
theorem dX7_lay_19 : decode cX7_lay 19 = .ok (.iload_n 3, 1) := by decide +kernel
theorem dX7_lay_20 : decode cX7_lay 20 = .ok (.aload_n 0, 1) := by decide +kernel
theorem dX7_lay_21 : decode cX7_lay 21 = .ok (.getfield 24, 3) := by decide +kernel
theorem dX7_lay_24 : decode cX7_lay 24 = .ok (.iastore, 1) := by decide +kernel
theorem dX7_lay_25 : decode cX7_lay 25 = .ok (.iconst 0, 1) := by decide +kernel
theorem dX7_lay_26 : decode cX7_lay 26 = .ok (.istore 4, 2) := by decide +kernel
theorem dX7_lay_28 : decode cX7_lay 28 = .ok (.iload 4, 2) := by decide +kernel
theorem dX7_lay_30 : decode cX7_lay 30 = .ok (.aload_n 1, 1) := by decide +kernel
theorem dX7_lay_31 : decode cX7_lay 31 = .ok (.getfield 28, 3) := by decide +kernel
theorem dX7_lay_34 : decode cX7_lay 34 = .ok (.iload_n 3, 1) := by decide +kernel
theorem dX7_lay_35 : decode cX7_lay 35 = .ok (.iaload, 1) := by decide +kernel
theorem dX7_lay_36 : decode cX7_lay 36 = .ok (.if_icmp .ge 26, 3) := by decide +kernel
theorem dX7_lay_39 : decode cX7_lay 39 = .ok (.aload_n 0, 1) := by decide +kernel
theorem dX7_lay_40 : decode cX7_lay 40 = .ok (.iload_n 3, 1) := by decide +kernel
theorem dX7_lay_41 : decode cX7_lay 41 = .ok (.aload_n 1, 1) := by decide +kernel
theorem dX7_lay_42 : decode cX7_lay 42 = .ok (.getfield 33, 3) := by decide +kernel
theorem dX7_lay_45 : decode cX7_lay 45 = .ok (.iload_n 2, 1) := by decide +kernel
theorem dX7_lay_46 : decode cX7_lay 46 = .ok (.iaload, 1) := by decide +kernel
theorem dX7_lay_47 : decode cX7_lay 47 = .ok (.bipush 8, 2) := by decide +kernel
theorem dX7_lay_49 : decode cX7_lay 49 = .ok (.iadd, 1) := by decide +kernel
theorem dX7_lay_50 : decode cX7_lay 50 = .ok (.invokevirtual 36, 3) := by decide +kernel
theorem dX7_lay_53 : decode cX7_lay 53 = .ok (.iinc 2 1, 3) := by decide +kernel
theorem dX7_lay_56 : decode cX7_lay 56 = .ok (.iinc 4 1, 3) := by decide +kernel
theorem dX7_lay_59 : decode cX7_lay 59 = .ok (.goto (-31), 3) := by decide +kernel
theorem dX7_lay_62 : decode cX7_lay 62 = .ok (.aload_n 0, 1) := by decide +kernel
theorem dX7_lay_63 : decode cX7_lay 63 = .ok (.getfield 21, 3) := by decide +kernel
theorem dX7_lay_66 : decode cX7_lay 66 = .ok (.iload_n 3, 1) := by decide +kernel
theorem dX7_lay_67 : decode cX7_lay 67 = .ok (.aload_n 0, 1) := by decide +kernel
theorem dX7_lay_68 : decode cX7_lay 68 = .ok (.getfield 24, 3) := by decide +kernel
theorem dX7_lay_71 : decode cX7_lay 71 = .ok (.iastore, 1) := by decide +kernel
theorem dX7_lay_72 : decode cX7_lay 72 = .ok (.aload_n 1, 1) := by decide +kernel
theorem dX7_lay_73 : decode cX7_lay 73 = .ok (.getfield 28, 3) := by decide +kernel
theorem dX7_lay_76 : decode cX7_lay 76 = .ok (.iload_n 3, 1) := by decide +kernel
theorem dX7_lay_77 : decode cX7_lay 77 = .ok (.iaload, 1) := by decide +kernel
theorem dX7_lay_78 : decode cX7_lay 78 = .ok (.ifCond .le 9, 3) := by decide +kernel
theorem dX7_lay_81 : decode cX7_lay 81 = .ok (.aload_n 0, 1) := by decide +kernel
theorem dX7_lay_82 : decode cX7_lay 82 = .ok (.iload_n 3, 1) := by decide +kernel
theorem dX7_lay_83 : decode cX7_lay 83 = .ok (.iload_n 3, 1) := by decide +kernel
theorem dX7_lay_84 : decode cX7_lay 84 = .ok (.invokevirtual 36, 3) := by decide +kernel
theorem dX7_lay_87 : decode cX7_lay 87 = .ok (.iinc 3 1, 3) := by decide +kernel
theorem dX7_lay_90 : decode cX7_lay 90 = .ok (.goto (-81), 3) := by decide +kernel
theorem dX7_lay_93 : decode cX7_lay 93 = .ok (.return_, 1) := by decide +kernel
theorem dX7_layLetter_0 : decode cX7_layLetter 0 = .ok (.aload_n 0, 1) := by decide +kernel
theorem dX7_layLetter_1 : decode cX7_layLetter 1 = .ok (.getfield 9, 3) := by decide +kernel
theorem dX7_layLetter_4 : decode cX7_layLetter 4 = .ok (.aload_n 0, 1) := by decide +kernel
theorem dX7_layLetter_5 : decode cX7_layLetter 5 = .ok (.getfield 24, 3) := by decide +kernel
theorem dX7_layLetter_8 : decode cX7_layLetter 8 = .ok (.iload_n 2, 1) := by decide +kernel
theorem dX7_layLetter_9 : decode cX7_layLetter 9 = .ok (.iastore, 1) := by decide +kernel
theorem dX7_layLetter_10 : decode cX7_layLetter 10 = .ok (.aload_n 0, 1) := by decide +kernel
theorem dX7_layLetter_11 : decode cX7_layLetter 11 = .ok (.getfield 15, 3) := by decide +kernel
theorem dX7_layLetter_14 : decode cX7_layLetter 14 = .ok (.aload_n 0, 1) := by decide +kernel
theorem dX7_layLetter_15 : decode cX7_layLetter 15 = .ok (.getfield 24, 3) := by decide +kernel
theorem dX7_layLetter_18 : decode cX7_layLetter 18 = .ok (.iload_n 1, 1) := by decide +kernel
theorem dX7_layLetter_19 : decode cX7_layLetter 19 = .ok (.iastore, 1) := by decide +kernel
theorem dX7_layLetter_20 : decode cX7_layLetter 20 = .ok (.aload_n 0, 1) := by decide +kernel
theorem dX7_layLetter_21 : decode cX7_layLetter 21 = .ok (.dup, 1) := by decide +kernel
theorem dX7_layLetter_22 : decode cX7_layLetter 22 = .ok (.getfield 24, 3) := by decide +kernel
theorem dX7_layLetter_25 : decode cX7_layLetter 25 = .ok (.iconst 1, 1) := by decide +kernel
theorem dX7_layLetter_26 : decode cX7_layLetter 26 = .ok (.iadd, 1) := by decide +kernel
theorem dX7_layLetter_27 : decode cX7_layLetter 27 = .ok (.putfield 24, 3) := by decide +kernel
theorem dX7_layLetter_30 : decode cX7_layLetter 30 = .ok (.return_, 1) := by decide +kernel
theorem dX7_has_0 : decode cX7_has 0 = .ok (.iload_n 1, 1) := by decide +kernel
theorem dX7_has_1 : decode cX7_has 1 = .ok (.ifCond .lt 15, 3) := by decide +kernel
theorem dX7_has_4 : decode cX7_has 4 = .ok (.iload_n 1, 1) := by decide +kernel
theorem dX7_has_5 : decode cX7_has 5 = .ok (.aload_n 0, 1) := by decide +kernel
theorem dX7_has_6 : decode cX7_has 6 = .ok (.getfield 24, 3) := by decide +kernel
theorem dX7_has_9 : decode cX7_has 9 = .ok (.if_icmp .ge 7, 3) := by decide +kernel
theorem dX7_has_12 : decode cX7_has 12 = .ok (.iconst 1, 1) := by decide +kernel
theorem dX7_has_13 : decode cX7_has 13 = .ok (.goto 4, 3) := by decide +kernel
theorem dX7_has_16 : decode cX7_has 16 = .ok (.iconst 0, 1) := by decide +kernel
theorem dX7_has_17 : decode cX7_has 17 = .ok (.ireturn, 1) := by decide +kernel
theorem dX7_isEnd_0 : decode cX7_isEnd 0 = .ok (.aload_n 0, 1) := by decide +kernel
theorem dX7_isEnd_1 : decode cX7_isEnd 1 = .ok (.getfield 9, 3) := by decide +kernel
theorem dX7_isEnd_4 : decode cX7_isEnd 4 = .ok (.iload_n 1, 1) := by decide +kernel
theorem dX7_isEnd_5 : decode cX7_isEnd 5 = .ok (.iaload, 1) := by decide +kernel
theorem dX7_isEnd_6 : decode cX7_isEnd 6 = .ok (.bipush 8, 2) := by decide +kernel
theorem dX7_isEnd_8 : decode cX7_isEnd 8 = .ok (.if_icmp .ge 7, 3) := by decide +kernel
theorem dX7_isEnd_11 : decode cX7_isEnd 11 = .ok (.iconst 1, 1) := by decide +kernel
theorem dX7_isEnd_12 : decode cX7_isEnd 12 = .ok (.goto 4, 3) := by decide +kernel
theorem dX7_isEnd_15 : decode cX7_isEnd 15 = .ok (.iconst 0, 1) := by decide +kernel
theorem dX7_isEnd_16 : decode cX7_isEnd 16 = .ok (.ireturn, 1) := by decide +kernel
theorem dX7_shown_0 : decode cX7_shown 0 = .ok (.aload_n 0, 1) := by decide +kernel
theorem dX7_shown_1 : decode cX7_shown 1 = .ok (.iload_n 1, 1) := by decide +kernel
theorem dX7_shown_2 : decode cX7_shown 2 = .ok (.invokevirtual 40, 3) := by decide +kernel
theorem dX7_shown_5 : decode cX7_shown 5 = .ok (.ifCond .eq 15, 3) := by decide +kernel
theorem dX7_shown_8 : decode cX7_shown 8 = .ok (.bipush (-2), 2) := by decide +kernel
theorem dX7_shown_10 : decode cX7_shown 10 = .ok (.aload_n 0, 1) := by decide +kernel
theorem dX7_shown_11 : decode cX7_shown 11 = .ok (.getfield 9, 3) := by decide +kernel
theorem dX7_shown_14 : decode cX7_shown 14 = .ok (.iload_n 1, 1) := by decide +kernel
theorem dX7_shown_15 : decode cX7_shown 15 = .ok (.iaload, 1) := by decide +kernel
theorem dX7_shown_16 : decode cX7_shown 16 = .ok (.isub, 1) := by decide +kernel
theorem dX7_shown_17 : decode cX7_shown 17 = .ok (.goto 12, 3) := by decide +kernel
theorem dX7_shown_20 : decode cX7_shown 20 = .ok (.aload_n 0, 1) := by decide +kernel
theorem dX7_shown_21 : decode cX7_shown 21 = .ok (.getfield 9, 3) := by decide +kernel
theorem dX7_shown_24 : decode cX7_shown 24 = .ok (.iload_n 1, 1) := by decide +kernel
theorem dX7_shown_25 : decode cX7_shown 25 = .ok (.iaload, 1) := by decide +kernel
theorem dX7_shown_26 : decode cX7_shown 26 = .ok (.bipush 8, 2) := by decide +kernel
theorem dX7_shown_28 : decode cX7_shown 28 = .ok (.isub, 1) := by decide +kernel
theorem dX7_shown_29 : decode cX7_shown 29 = .ok (.ireturn, 1) := by decide +kernel
theorem dX7_signsFrom_0 : decode cX7_signsFrom 0 = .ok (.aload_n 0, 1) := by decide +kernel
theorem dX7_signsFrom_1 : decode cX7_signsFrom 1 = .ok (.getfield 21, 3) := by decide +kernel
theorem dX7_signsFrom_4 : decode cX7_signsFrom 4 = .ok (.aload_n 0, 1) := by decide +kernel
theorem dX7_signsFrom_5 : decode cX7_signsFrom 5 = .ok (.getfield 15, 3) := by decide +kernel
theorem dX7_signsFrom_8 : decode cX7_signsFrom 8 = .ok (.iload_n 1, 1) := by decide +kernel
theorem dX7_signsFrom_9 : decode cX7_signsFrom 9 = .ok (.iaload, 1) := by decide +kernel
theorem dX7_signsFrom_10 : decode cX7_signsFrom 10 = .ok (.iaload, 1) := by decide +kernel
theorem dX7_signsFrom_11 : decode cX7_signsFrom 11 = .ok (.iload_n 1, 1) := by decide +kernel
theorem dX7_signsFrom_12 : decode cX7_signsFrom 12 = .ok (.isub, 1) := by decide +kernel
theorem dX7_signsFrom_13 : decode cX7_signsFrom 13 = .ok (.ireturn, 1) := by decide +kernel
theorem dX7_previous_0 : decode cX7_previous 0 = .ok (.iload_n 1, 1) := by decide +kernel
theorem dX7_previous_1 : decode cX7_previous 1 = .ok (.ifCond .ne 12, 3) := by decide +kernel
theorem dX7_previous_4 : decode cX7_previous 4 = .ok (.aload_n 0, 1) := by decide +kernel
theorem dX7_previous_5 : decode cX7_previous 5 = .ok (.getfield 24, 3) := by decide +kernel
theorem dX7_previous_8 : decode cX7_previous 8 = .ok (.iconst 1, 1) := by decide +kernel
theorem dX7_previous_9 : decode cX7_previous 9 = .ok (.isub, 1) := by decide +kernel
theorem dX7_previous_10 : decode cX7_previous 10 = .ok (.goto 6, 3) := by decide +kernel
theorem dX7_previous_13 : decode cX7_previous 13 = .ok (.iload_n 1, 1) := by decide +kernel
theorem dX7_previous_14 : decode cX7_previous 14 = .ok (.iconst 1, 1) := by decide +kernel
theorem dX7_previous_15 : decode cX7_previous 15 = .ok (.isub, 1) := by decide +kernel
theorem dX7_previous_16 : decode cX7_previous 16 = .ok (.ireturn, 1) := by decide +kernel
theorem dX7_alikeFrom_0 : decode cX7_alikeFrom 0 = .ok (.iload_n 3, 1) := by decide +kernel
theorem dX7_alikeFrom_1 : decode cX7_alikeFrom 1 = .ok (.istore 4, 2) := by decide +kernel
theorem dX7_alikeFrom_3 : decode cX7_alikeFrom 3 = .ok (.iload_n 1, 1) := by decide +kernel
theorem dX7_alikeFrom_4 : decode cX7_alikeFrom 4 = .ok (.iload 4, 2) := by decide +kernel
theorem dX7_alikeFrom_6 : decode cX7_alikeFrom 6 = .ok (.iadd, 1) := by decide +kernel
theorem dX7_alikeFrom_7 : decode cX7_alikeFrom 7 = .ok (.aload_n 0, 1) := by decide +kernel
theorem dX7_alikeFrom_8 : decode cX7_alikeFrom 8 = .ok (.getfield 24, 3) := by decide +kernel
theorem dX7_alikeFrom_11 : decode cX7_alikeFrom 11 = .ok (.if_icmp .ge 41, 3) := by decide +kernel
theorem dX7_alikeFrom_14 : decode cX7_alikeFrom 14 = .ok (.iload_n 2, 1) := by decide +kernel
theorem dX7_alikeFrom_15 : decode cX7_alikeFrom 15 = .ok (.iload 4, 2) := by decide +kernel
theorem dX7_alikeFrom_17 : decode cX7_alikeFrom 17 = .ok (.iadd, 1) := by decide +kernel
theorem dX7_alikeFrom_18 : decode cX7_alikeFrom 18 = .ok (.aload_n 0, 1) := by decide +kernel
theorem dX7_alikeFrom_19 : decode cX7_alikeFrom 19 = .ok (.getfield 24, 3) := by decide +kernel
theorem dX7_alikeFrom_22 : decode cX7_alikeFrom 22 = .ok (.if_icmp .ge 30, 3) := by decide +kernel
theorem dX7_alikeFrom_25 : decode cX7_alikeFrom 25 = .ok (.aload_n 0, 1) := by decide +kernel
theorem dX7_alikeFrom_26 : decode cX7_alikeFrom 26 = .ok (.getfield 9, 3) := by decide +kernel
theorem dX7_alikeFrom_29 : decode cX7_alikeFrom 29 = .ok (.iload_n 1, 1) := by decide +kernel
theorem dX7_alikeFrom_30 : decode cX7_alikeFrom 30 = .ok (.iload 4, 2) := by decide +kernel
theorem dX7_alikeFrom_32 : decode cX7_alikeFrom 32 = .ok (.iadd, 1) := by decide +kernel
theorem dX7_alikeFrom_33 : decode cX7_alikeFrom 33 = .ok (.iaload, 1) := by decide +kernel
theorem dX7_alikeFrom_34 : decode cX7_alikeFrom 34 = .ok (.aload_n 0, 1) := by decide +kernel
theorem dX7_alikeFrom_35 : decode cX7_alikeFrom 35 = .ok (.getfield 9, 3) := by decide +kernel
theorem dX7_alikeFrom_38 : decode cX7_alikeFrom 38 = .ok (.iload_n 2, 1) := by decide +kernel
theorem dX7_alikeFrom_39 : decode cX7_alikeFrom 39 = .ok (.iload 4, 2) := by decide +kernel
theorem dX7_alikeFrom_41 : decode cX7_alikeFrom 41 = .ok (.iadd, 1) := by decide +kernel
theorem dX7_alikeFrom_42 : decode cX7_alikeFrom 42 = .ok (.iaload, 1) := by decide +kernel
theorem dX7_alikeFrom_43 : decode cX7_alikeFrom 43 = .ok (.if_icmp .ne 9, 3) := by decide +kernel
theorem dX7_alikeFrom_46 : decode cX7_alikeFrom 46 = .ok (.iinc 4 1, 3) := by decide +kernel
theorem dX7_alikeFrom_49 : decode cX7_alikeFrom 49 = .ok (.goto (-46), 3) := by decide +kernel
theorem dX7_alikeFrom_52 : decode cX7_alikeFrom 52 = .ok (.iload 4, 2) := by decide +kernel
theorem dX7_alikeFrom_54 : decode cX7_alikeFrom 54 = .ok (.ireturn, 1) := by decide +kernel
theorem dJ6_bitCount_0f7a4_0 : decode cJ6_bitCount_0f7a4 0 = .ok (.iload_n 0, 1) := by decide +kernel
theorem dJ6_bitCount_0f7a4_1 : decode cJ6_bitCount_0f7a4 1 = .ok (.iload_n 0, 1) := by decide +kernel
theorem dJ6_bitCount_0f7a4_2 : decode cJ6_bitCount_0f7a4 2 = .ok (.iconst 1, 1) := by decide +kernel
theorem dJ6_bitCount_0f7a4_3 : decode cJ6_bitCount_0f7a4 3 = .ok (.iushr, 1) := by decide +kernel
theorem dJ6_bitCount_0f7a4_4 : decode cJ6_bitCount_0f7a4 4 = .ok (.ldc_w 265, 3) := by decide +kernel
theorem dJ6_bitCount_0f7a4_7 : decode cJ6_bitCount_0f7a4 7 = .ok (.iand, 1) := by decide +kernel
theorem dJ6_bitCount_0f7a4_8 : decode cJ6_bitCount_0f7a4 8 = .ok (.isub, 1) := by decide +kernel
theorem dJ6_bitCount_0f7a4_9 : decode cJ6_bitCount_0f7a4 9 = .ok (.istore_n 0, 1) := by decide +kernel
theorem dJ6_bitCount_0f7a4_10 : decode cJ6_bitCount_0f7a4 10 = .ok (.iload_n 0, 1) := by decide +kernel
theorem dJ6_bitCount_0f7a4_11 : decode cJ6_bitCount_0f7a4 11 = .ok (.ldc_w 266, 3) := by decide +kernel
theorem dJ6_bitCount_0f7a4_14 : decode cJ6_bitCount_0f7a4 14 = .ok (.iand, 1) := by decide +kernel
theorem dJ6_bitCount_0f7a4_15 : decode cJ6_bitCount_0f7a4 15 = .ok (.iload_n 0, 1) := by decide +kernel
theorem dJ6_bitCount_0f7a4_16 : decode cJ6_bitCount_0f7a4 16 = .ok (.iconst 2, 1) := by decide +kernel
theorem dJ6_bitCount_0f7a4_17 : decode cJ6_bitCount_0f7a4 17 = .ok (.iushr, 1) := by decide +kernel
theorem dJ6_bitCount_0f7a4_18 : decode cJ6_bitCount_0f7a4 18 = .ok (.ldc_w 266, 3) := by decide +kernel
theorem dJ6_bitCount_0f7a4_21 : decode cJ6_bitCount_0f7a4 21 = .ok (.iand, 1) := by decide +kernel
theorem dJ6_bitCount_0f7a4_22 : decode cJ6_bitCount_0f7a4 22 = .ok (.iadd, 1) := by decide +kernel
theorem dJ6_bitCount_0f7a4_23 : decode cJ6_bitCount_0f7a4 23 = .ok (.istore_n 0, 1) := by decide +kernel
theorem dJ6_bitCount_0f7a4_24 : decode cJ6_bitCount_0f7a4 24 = .ok (.iload_n 0, 1) := by decide +kernel
theorem dJ6_bitCount_0f7a4_25 : decode cJ6_bitCount_0f7a4 25 = .ok (.iload_n 0, 1) := by decide +kernel
theorem dJ6_bitCount_0f7a4_26 : decode cJ6_bitCount_0f7a4 26 = .ok (.iconst 4, 1) := by decide +kernel
theorem dJ6_bitCount_0f7a4_27 : decode cJ6_bitCount_0f7a4 27 = .ok (.iushr, 1) := by decide +kernel
theorem dJ6_bitCount_0f7a4_28 : decode cJ6_bitCount_0f7a4 28 = .ok (.iadd, 1) := by decide +kernel
theorem dJ6_bitCount_0f7a4_29 : decode cJ6_bitCount_0f7a4 29 = .ok (.ldc_w 267, 3) := by decide +kernel
theorem dJ6_bitCount_0f7a4_32 : decode cJ6_bitCount_0f7a4 32 = .ok (.iand, 1) := by decide +kernel
theorem dJ6_bitCount_0f7a4_33 : decode cJ6_bitCount_0f7a4 33 = .ok (.istore_n 0, 1) := by decide +kernel
theorem dJ6_bitCount_0f7a4_34 : decode cJ6_bitCount_0f7a4 34 = .ok (.iload_n 0, 1) := by decide +kernel
theorem dJ6_bitCount_0f7a4_35 : decode cJ6_bitCount_0f7a4 35 = .ok (.iload_n 0, 1) := by decide +kernel
theorem dJ6_bitCount_0f7a4_36 : decode cJ6_bitCount_0f7a4 36 = .ok (.bipush 8, 2) := by decide +kernel
theorem dJ6_bitCount_0f7a4_38 : decode cJ6_bitCount_0f7a4 38 = .ok (.iushr, 1) := by decide +kernel
theorem dJ6_bitCount_0f7a4_39 : decode cJ6_bitCount_0f7a4 39 = .ok (.iadd, 1) := by decide +kernel
theorem dJ6_bitCount_0f7a4_40 : decode cJ6_bitCount_0f7a4 40 = .ok (.istore_n 0, 1) := by decide +kernel
theorem dJ6_bitCount_0f7a4_41 : decode cJ6_bitCount_0f7a4 41 = .ok (.iload_n 0, 1) := by decide +kernel
theorem dJ6_bitCount_0f7a4_42 : decode cJ6_bitCount_0f7a4 42 = .ok (.iload_n 0, 1) := by decide +kernel
theorem dJ6_bitCount_0f7a4_43 : decode cJ6_bitCount_0f7a4 43 = .ok (.bipush 16, 2) := by decide +kernel
theorem dJ6_bitCount_0f7a4_45 : decode cJ6_bitCount_0f7a4 45 = .ok (.iushr, 1) := by decide +kernel
theorem dJ6_bitCount_0f7a4_46 : decode cJ6_bitCount_0f7a4 46 = .ok (.iadd, 1) := by decide +kernel
theorem dJ6_bitCount_0f7a4_47 : decode cJ6_bitCount_0f7a4 47 = .ok (.istore_n 0, 1) := by decide +kernel
theorem dJ6_bitCount_0f7a4_48 : decode cJ6_bitCount_0f7a4 48 = .ok (.iload_n 0, 1) := by decide +kernel
theorem dJ6_bitCount_0f7a4_49 : decode cJ6_bitCount_0f7a4 49 = .ok (.bipush 63, 2) := by decide +kernel
theorem dJ6_bitCount_0f7a4_51 : decode cJ6_bitCount_0f7a4 51 = .ok (.iand, 1) := by decide +kernel
theorem dJ6_bitCount_0f7a4_52 : decode cJ6_bitCount_0f7a4 52 = .ok (.ireturn, 1) := by decide +kernel
theorem dJ7_rangeCheck_23922_0 : decode cJ7_rangeCheck_23922 0 = .ok (.iload_n 1, 1) := by decide +kernel
theorem dJ7_rangeCheck_23922_1 : decode cJ7_rangeCheck_23922 1 = .ok (.iload_n 2, 1) := by decide +kernel
theorem dJ7_rangeCheck_23922_2 : decode cJ7_rangeCheck_23922 2 = .ok (.if_icmp .le 44, 3) := by decide +kernel
theorem dJ7_rangeCheck_23922_5 : decode cJ7_rangeCheck_23922 5 = .ok (.new 43, 3) := by decide +kernel
theorem dJ7_rangeCheck_23922_8 : decode cJ7_rangeCheck_23922 8 = .ok (.dup, 1) := by decide +kernel
theorem dJ7_rangeCheck_23922_9 : decode cJ7_rangeCheck_23922 9 = .ok (.new 45, 3) := by decide +kernel
theorem dJ7_rangeCheck_23922_12 : decode cJ7_rangeCheck_23922 12 = .ok (.dup, 1) := by decide +kernel
theorem dJ7_rangeCheck_23922_13 : decode cJ7_rangeCheck_23922 13 = .ok (.invokespecial 47, 3) := by decide +kernel
theorem dJ7_rangeCheck_23922_16 : decode cJ7_rangeCheck_23922 16 = .ok (.ldc 48, 2) := by decide +kernel
theorem dJ7_rangeCheck_23922_18 : decode cJ7_rangeCheck_23922 18 = .ok (.invokevirtual 50, 3) := by decide +kernel
theorem dJ7_rangeCheck_23922_21 : decode cJ7_rangeCheck_23922 21 = .ok (.iload_n 1, 1) := by decide +kernel
theorem dJ7_rangeCheck_23922_22 : decode cJ7_rangeCheck_23922 22 = .ok (.invokevirtual 54, 3) := by decide +kernel
theorem dJ7_rangeCheck_23922_25 : decode cJ7_rangeCheck_23922 25 = .ok (.ldc 57, 2) := by decide +kernel
theorem dJ7_rangeCheck_23922_27 : decode cJ7_rangeCheck_23922 27 = .ok (.invokevirtual 50, 3) := by decide +kernel
theorem dJ7_rangeCheck_23922_30 : decode cJ7_rangeCheck_23922 30 = .ok (.iload_n 2, 1) := by decide +kernel
theorem dJ7_rangeCheck_23922_31 : decode cJ7_rangeCheck_23922 31 = .ok (.invokevirtual 54, 3) := by decide +kernel
theorem dJ7_rangeCheck_23922_34 : decode cJ7_rangeCheck_23922 34 = .ok (.ldc 59, 2) := by decide +kernel
theorem dJ7_rangeCheck_23922_36 : decode cJ7_rangeCheck_23922 36 = .ok (.invokevirtual 50, 3) := by decide +kernel
theorem dJ7_rangeCheck_23922_39 : decode cJ7_rangeCheck_23922 39 = .ok (.invokevirtual 61, 3) := by decide +kernel
theorem dJ7_rangeCheck_23922_42 : decode cJ7_rangeCheck_23922 42 = .ok (.invokespecial 65, 3) := by decide +kernel
theorem dJ7_rangeCheck_23922_45 : decode cJ7_rangeCheck_23922 45 = .ok (.athrow, 1) := by decide +kernel
theorem dJ7_rangeCheck_23922_46 : decode cJ7_rangeCheck_23922 46 = .ok (.iload_n 1, 1) := by decide +kernel
theorem dJ7_rangeCheck_23922_47 : decode cJ7_rangeCheck_23922 47 = .ok (.ifCond .ge 12, 3) := by decide +kernel
theorem dJ7_rangeCheck_23922_50 : decode cJ7_rangeCheck_23922 50 = .ok (.new 68, 3) := by decide +kernel
theorem dJ7_rangeCheck_23922_53 : decode cJ7_rangeCheck_23922 53 = .ok (.dup, 1) := by decide +kernel
theorem dJ7_rangeCheck_23922_54 : decode cJ7_rangeCheck_23922 54 = .ok (.iload_n 1, 1) := by decide +kernel
theorem dJ7_rangeCheck_23922_55 : decode cJ7_rangeCheck_23922 55 = .ok (.invokespecial 70, 3) := by decide +kernel
theorem dJ7_rangeCheck_23922_58 : decode cJ7_rangeCheck_23922 58 = .ok (.athrow, 1) := by decide +kernel
theorem dJ7_rangeCheck_23922_59 : decode cJ7_rangeCheck_23922 59 = .ok (.iload_n 2, 1) := by decide +kernel
theorem dJ7_rangeCheck_23922_60 : decode cJ7_rangeCheck_23922 60 = .ok (.iload_n 0, 1) := by decide +kernel
theorem dJ7_rangeCheck_23922_61 : decode cJ7_rangeCheck_23922 61 = .ok (.if_icmp .le 12, 3) := by decide +kernel
theorem dJ7_rangeCheck_23922_64 : decode cJ7_rangeCheck_23922 64 = .ok (.new 68, 3) := by decide +kernel
theorem dJ7_rangeCheck_23922_67 : decode cJ7_rangeCheck_23922 67 = .ok (.dup, 1) := by decide +kernel
theorem dJ7_rangeCheck_23922_68 : decode cJ7_rangeCheck_23922 68 = .ok (.iload_n 2, 1) := by decide +kernel
theorem dJ7_rangeCheck_23922_69 : decode cJ7_rangeCheck_23922 69 = .ok (.invokespecial 70, 3) := by decide +kernel
theorem dJ7_rangeCheck_23922_72 : decode cJ7_rangeCheck_23922 72 = .ok (.athrow, 1) := by decide +kernel
theorem dJ7_rangeCheck_23922_73 : decode cJ7_rangeCheck_23922 73 = .ok (.return_, 1) := by decide +kernel
theorem dJ7_fill_fda19_0 : decode cJ7_fill_fda19 0 = .ok (.aload_n 0, 1) := by decide +kernel
theorem dJ7_fill_fda19_1 : decode cJ7_fill_fda19 1 = .ok (.arraylength, 1) := by decide +kernel
theorem dJ7_fill_fda19_2 : decode cJ7_fill_fda19 2 = .ok (.iload_n 1, 1) := by decide +kernel
theorem dJ7_fill_fda19_3 : decode cJ7_fill_fda19 3 = .ok (.iload_n 2, 1) := by decide +kernel
theorem dJ7_fill_fda19_4 : decode cJ7_fill_fda19 4 = .ok (.invokestatic 13, 3) := by decide +kernel
theorem dJ7_fill_fda19_7 : decode cJ7_fill_fda19 7 = .ok (.iload_n 1, 1) := by decide +kernel
theorem dJ7_fill_fda19_8 : decode cJ7_fill_fda19 8 = .ok (.istore 4, 2) := by decide +kernel
theorem dJ7_fill_fda19_10 : decode cJ7_fill_fda19 10 = .ok (.iload 4, 2) := by decide +kernel
theorem dJ7_fill_fda19_12 : decode cJ7_fill_fda19 12 = .ok (.iload_n 2, 1) := by decide +kernel
theorem dJ7_fill_fda19_13 : decode cJ7_fill_fda19 13 = .ok (.if_icmp .ge 14, 3) := by decide +kernel
theorem dJ7_fill_fda19_16 : decode cJ7_fill_fda19 16 = .ok (.aload_n 0, 1) := by decide +kernel
theorem dJ7_fill_fda19_17 : decode cJ7_fill_fda19 17 = .ok (.iload 4, 2) := by decide +kernel
theorem dJ7_fill_fda19_19 : decode cJ7_fill_fda19 19 = .ok (.iload_n 3, 1) := by decide +kernel
theorem dJ7_fill_fda19_20 : decode cJ7_fill_fda19 20 = .ok (.iastore, 1) := by decide +kernel
theorem dJ7_fill_fda19_21 : decode cJ7_fill_fda19 21 = .ok (.iinc 4 1, 3) := by decide +kernel
theorem dJ7_fill_fda19_24 : decode cJ7_fill_fda19 24 = .ok (.goto (-14), 3) := by decide +kernel
theorem dJ7_fill_fda19_27 : decode cJ7_fill_fda19 27 = .ok (.return_, 1) := by decide +kernel
theorem dJ9_max_7cf53_0 : decode cJ9_max_7cf53 0 = .ok (.iload_n 0, 1) := by decide +kernel
theorem dJ9_max_7cf53_1 : decode cJ9_max_7cf53 1 = .ok (.iload_n 1, 1) := by decide +kernel
theorem dJ9_max_7cf53_2 : decode cJ9_max_7cf53 2 = .ok (.if_icmp .lt 7, 3) := by decide +kernel
theorem dJ9_max_7cf53_5 : decode cJ9_max_7cf53 5 = .ok (.iload_n 0, 1) := by decide +kernel
theorem dJ9_max_7cf53_6 : decode cJ9_max_7cf53 6 = .ok (.goto 4, 3) := by decide +kernel
theorem dJ9_max_7cf53_9 : decode cJ9_max_7cf53 9 = .ok (.iload_n 1, 1) := by decide +kernel
theorem dJ9_max_7cf53_10 : decode cJ9_max_7cf53 10 = .ok (.ireturn, 1) := by decide +kernel
theorem dJ9_min_7cf53_0 : decode cJ9_min_7cf53 0 = .ok (.iload_n 0, 1) := by decide +kernel
theorem dJ9_min_7cf53_1 : decode cJ9_min_7cf53 1 = .ok (.iload_n 1, 1) := by decide +kernel
theorem dJ9_min_7cf53_2 : decode cJ9_min_7cf53 2 = .ok (.if_icmp .gt 7, 3) := by decide +kernel
theorem dJ9_min_7cf53_5 : decode cJ9_min_7cf53 5 = .ok (.iload_n 0, 1) := by decide +kernel
theorem dJ9_min_7cf53_6 : decode cJ9_min_7cf53 6 = .ok (.goto 4, 3) := by decide +kernel
theorem dJ9_min_7cf53_9 : decode cJ9_min_7cf53 9 = .ok (.iload_n 1, 1) := by decide +kernel
theorem dJ9_min_7cf53_10 : decode cJ9_min_7cf53 10 = .ok (.ireturn, 1) := by decide +kernel
end
section
theorem dX4_init_0 : decode cX4_init 0 = .ok (.aload_n 0, 1) := by decide +kernel
theorem dX4_init_1 : decode cX4_init 1 = .ok (.invokespecial 3, 3) := by decide +kernel
theorem dX4_init_4 : decode cX4_init 4 = .ok (.aload_n 0, 1) := by decide +kernel
theorem dX4_init_5 : decode cX4_init 5 = .ok (.sipush 408, 3) := by decide +kernel
theorem dX4_init_8 : decode cX4_init 8 = .ok (.newarray .int, 2) := by decide +kernel
theorem dX4_init_10 : decode cX4_init 10 = .ok (.putfield 9, 3) := by decide +kernel
theorem dX4_init_13 : decode cX4_init 13 = .ok (.aload_n 0, 1) := by decide +kernel
theorem dX4_init_14 : decode cX4_init 14 = .ok (.sipush 816, 3) := by decide +kernel
theorem dX4_init_17 : decode cX4_init 17 = .ok (.newarray .int, 2) := by decide +kernel
theorem dX4_init_19 : decode cX4_init 19 = .ok (.putfield 15, 3) := by decide +kernel
theorem dX4_init_22 : decode cX4_init 22 = .ok (.aload_n 0, 1) := by decide +kernel
theorem dX4_init_23 : decode cX4_init 23 = .ok (.sipush 816, 3) := by decide +kernel
theorem dX4_init_26 : decode cX4_init 26 = .ok (.newarray .boolean, 2) := by decide +kernel
theorem dX4_init_28 : decode cX4_init 28 = .ok (.putfield 18, 3) := by decide +kernel
theorem dX4_init_31 : decode cX4_init 31 = .ok (.aload_n 0, 1) := by decide +kernel
theorem dX4_init_32 : decode cX4_init 32 = .ok (.sipush 816, 3) := by decide +kernel
theorem dX4_init_35 : decode cX4_init 35 = .ok (.newarray .int, 2) := by decide +kernel
theorem dX4_init_37 : decode cX4_init 37 = .ok (.putfield 22, 3) := by decide +kernel
theorem dX4_init_40 : decode cX4_init 40 = .ok (.aload_n 0, 1) := by decide +kernel
theorem dX4_init_41 : decode cX4_init 41 = .ok (.bipush 11, 2) := by decide +kernel
theorem dX4_init_43 : decode cX4_init 43 = .ok (.newarray .int, 2) := by decide +kernel
theorem dX4_init_45 : decode cX4_init 45 = .ok (.putfield 25, 3) := by decide +kernel
theorem dX4_init_48 : decode cX4_init 48 = .ok (.aload_n 0, 1) := by decide +kernel
theorem dX4_init_49 : decode cX4_init 49 = .ok (.bipush 11, 2) := by decide +kernel
theorem dX4_init_51 : decode cX4_init 51 = .ok (.newarray .int, 2) := by decide +kernel
theorem dX4_init_53 : decode cX4_init 53 = .ok (.putfield 28, 3) := by decide +kernel
theorem dX4_init_56 : decode cX4_init 56 = .ok (.aload_n 0, 1) := by decide +kernel
theorem dX4_init_57 : decode cX4_init 57 = .ok (.bipush 11, 2) := by decide +kernel
theorem dX4_init_59 : decode cX4_init 59 = .ok (.newarray .int, 2) := by decide +kernel
theorem dX4_init_61 : decode cX4_init 61 = .ok (.putfield 31, 3) := by decide +kernel
theorem dX4_init_64 : decode cX4_init 64 = .ok (.aload_n 0, 1) := by decide +kernel
theorem dX4_init_65 : decode cX4_init 65 = .ok (.sipush 408, 3) := by decide +kernel
theorem dX4_init_68 : decode cX4_init 68 = .ok (.newarray .int, 2) := by decide +kernel
theorem dX4_init_70 : decode cX4_init 70 = .ok (.putfield 34, 3) := by decide +kernel
theorem dX4_init_73 : decode cX4_init 73 = .ok (.aload_n 0, 1) := by decide +kernel
theorem dX4_init_74 : decode cX4_init 74 = .ok (.sipush 408, 3) := by decide +kernel
theorem dX4_init_77 : decode cX4_init 77 = .ok (.newarray .int, 2) := by decide +kernel
theorem dX4_init_79 : decode cX4_init 79 = .ok (.putfield 37, 3) := by decide +kernel
theorem dX4_init_82 : decode cX4_init 82 = .ok (.aload_n 0, 1) := by decide +kernel
theorem dX4_init_83 : decode cX4_init 83 = .ok (.sipush 1009, 3) := by decide +kernel
theorem dX4_init_86 : decode cX4_init 86 = .ok (.newarray .int, 2) := by decide +kernel
theorem dX4_init_88 : decode cX4_init 88 = .ok (.putfield 40, 3) := by decide +kernel
theorem dX4_init_91 : decode cX4_init 91 = .ok (.aload_n 0, 1) := by decide +kernel
theorem dX4_init_92 : decode cX4_init 92 = .ok (.sipush 1008, 3) := by decide +kernel
theorem dX4_init_95 : decode cX4_init 95 = .ok (.newarray .int, 2) := by decide +kernel
theorem dX4_init_97 : decode cX4_init 97 = .ok (.putfield 43, 3) := by decide +kernel
theorem dX4_init_100 : decode cX4_init 100 = .ok (.return_, 1) := by decide +kernel
theorem dX4_sort_0 : decode cX4_sort 0 = .ok (.aload_n 1, 1) := by decide +kernel
theorem dX4_sort_1 : decode cX4_sort 1 = .ok (.iconst 0, 1) := by decide +kernel
theorem dX4_sort_2 : decode cX4_sort 2 = .ok (.aload_n 0, 1) := by decide +kernel
theorem dX4_sort_3 : decode cX4_sort 3 = .ok (.getfield 15, 3) := by decide +kernel
theorem dX4_sort_6 : decode cX4_sort 6 = .ok (.iconst 0, 1) := by decide +kernel
theorem dX4_sort_7 : decode cX4_sort 7 = .ok (.iload_n 2, 1) := by decide +kernel
theorem dX4_sort_8 : decode cX4_sort 8 = .ok (.invokestatic 46, 3) := by decide +kernel
theorem dX4_sort_11 : decode cX4_sort 11 = .ok (.aload_n 0, 1) := by decide +kernel
theorem dX4_sort_12 : decode cX4_sort 12 = .ok (.getfield 25, 3) := by decide +kernel
theorem dX4_sort_15 : decode cX4_sort 15 = .ok (.iconst 0, 1) := by decide +kernel
theorem dX4_sort_16 : decode cX4_sort 16 = .ok (.iconst 0, 1) := by decide +kernel
theorem dX4_sort_17 : decode cX4_sort 17 = .ok (.iastore, 1) := by decide +kernel
theorem dX4_sort_18 : decode cX4_sort 18 = .ok (.aload_n 0, 1) := by decide +kernel
theorem dX4_sort_19 : decode cX4_sort 19 = .ok (.getfield 28, 3) := by decide +kernel
theorem dX4_sort_22 : decode cX4_sort 22 = .ok (.iconst 0, 1) := by decide +kernel
theorem dX4_sort_23 : decode cX4_sort 23 = .ok (.iload_n 2, 1) := by decide +kernel
theorem dX4_sort_24 : decode cX4_sort 24 = .ok (.iastore, 1) := by decide +kernel
theorem dX4_sort_25 : decode cX4_sort 25 = .ok (.aload_n 0, 1) := by decide +kernel
theorem dX4_sort_26 : decode cX4_sort 26 = .ok (.getfield 31, 3) := by decide +kernel
theorem dX4_sort_29 : decode cX4_sort 29 = .ok (.iconst 0, 1) := by decide +kernel
theorem dX4_sort_30 : decode cX4_sort 30 = .ok (.sipush 1008, 3) := by decide +kernel
theorem dX4_sort_33 : decode cX4_sort 33 = .ok (.iastore, 1) := by decide +kernel
theorem dX4_sort_34 : decode cX4_sort 34 = .ok (.iconst 0, 1) := by decide +kernel
theorem dX4_sort_35 : decode cX4_sort 35 = .ok (.istore_n 3, 1) := by decide +kernel
theorem dX4_sort_36 : decode cX4_sort 36 = .ok (.aload_n 0, 1) := by decide +kernel
theorem dX4_sort_37 : decode cX4_sort 37 = .ok (.iconst 0, 1) := by decide +kernel
theorem dX4_sort_38 : decode cX4_sort 38 = .ok (.invokevirtual 52, 3) := by decide +kernel
theorem dX4_sort_41 : decode cX4_sort 41 = .ok (.iload_n 3, 1) := by decide +kernel
theorem dX4_sort_42 : decode cX4_sort 42 = .ok (.iconst 1, 1) := by decide +kernel
theorem dX4_sort_43 : decode cX4_sort 43 = .ok (.iadd, 1) := by decide +kernel
theorem dX4_sort_44 : decode cX4_sort 44 = .ok (.bipush 10, 2) := by decide +kernel
theorem dX4_sort_46 : decode cX4_sort 46 = .ok (.if_icmp .ge 33, 3) := by decide +kernel
theorem dX4_sort_49 : decode cX4_sort 49 = .ok (.aload_n 0, 1) := by decide +kernel
theorem dX4_sort_50 : decode cX4_sort 50 = .ok (.getfield 31, 3) := by decide +kernel
theorem dX4_sort_53 : decode cX4_sort 53 = .ok (.iload_n 3, 1) := by decide +kernel
theorem dX4_sort_54 : decode cX4_sort 54 = .ok (.iconst 1, 1) := by decide +kernel
theorem dX4_sort_55 : decode cX4_sort 55 = .ok (.iadd, 1) := by decide +kernel
theorem dX4_sort_56 : decode cX4_sort 56 = .ok (.iaload, 1) := by decide +kernel
theorem dX4_sort_57 : decode cX4_sort 57 = .ok (.aload_n 0, 1) := by decide +kernel
theorem dX4_sort_58 : decode cX4_sort 58 = .ok (.getfield 28, 3) := by decide +kernel
theorem dX4_sort_61 : decode cX4_sort 61 = .ok (.iload_n 3, 1) := by decide +kernel
theorem dX4_sort_62 : decode cX4_sort 62 = .ok (.iconst 1, 1) := by decide +kernel
theorem dX4_sort_63 : decode cX4_sort 63 = .ok (.iadd, 1) := by decide +kernel
theorem dX4_sort_64 : decode cX4_sort 64 = .ok (.iaload, 1) := by decide +kernel
theorem dX4_sort_65 : decode cX4_sort 65 = .ok (.if_icmp .ge 14, 3) := by decide +kernel
theorem dX4_sort_68 : decode cX4_sort 68 = .ok (.iinc 3 1, 3) := by decide +kernel
theorem dX4_sort_71 : decode cX4_sort 71 = .ok (.aload_n 0, 1) := by decide +kernel
theorem dX4_sort_72 : decode cX4_sort 72 = .ok (.iload_n 3, 1) := by decide +kernel
theorem dX4_sort_73 : decode cX4_sort 73 = .ok (.invokevirtual 52, 3) := by decide +kernel
theorem dX4_sort_76 : decode cX4_sort 76 = .ok (.goto (-35), 3) := by decide +kernel
theorem dX4_sort_79 : decode cX4_sort 79 = .ok (.aload_n 0, 1) := by decide +kernel
theorem dX4_sort_80 : decode cX4_sort 80 = .ok (.iload_n 3, 1) := by decide +kernel
theorem dX4_sort_81 : decode cX4_sort 81 = .ok (.iconst 1, 1) := by decide +kernel
theorem dX4_sort_82 : decode cX4_sort 82 = .ok (.iadd, 1) := by decide +kernel
theorem dX4_sort_83 : decode cX4_sort 83 = .ok (.invokevirtual 56, 3) := by decide +kernel
theorem dX4_sort_86 : decode cX4_sort 86 = .ok (.iload_n 3, 1) := by decide +kernel
theorem dX4_sort_87 : decode cX4_sort 87 = .ok (.ifCond .lt 14, 3) := by decide +kernel
theorem dX4_sort_90 : decode cX4_sort 90 = .ok (.aload_n 0, 1) := by decide +kernel
theorem dX4_sort_91 : decode cX4_sort 91 = .ok (.iload_n 3, 1) := by decide +kernel
theorem dX4_sort_92 : decode cX4_sort 92 = .ok (.invokevirtual 59, 3) := by decide +kernel
theorem dX4_sort_95 : decode cX4_sort 95 = .ok (.iinc 3 (-1), 3) := by decide +kernel
theorem dX4_sort_98 : decode cX4_sort 98 = .ok (.goto (-12), 3) := by decide +kernel
theorem dX4_sort_101 : decode cX4_sort 101 = .ok (.return_, 1) := by decide +kernel
theorem dX4_makeLevelBelow_0 : decode cX4_makeLevelBelow 0 = .ok (.aload_n 0, 1) := by decide +kernel
theorem dX4_makeLevelBelow_1 : decode cX4_makeLevelBelow 1 = .ok (.iload_n 1, 1) := by decide +kernel
theorem dX4_makeLevelBelow_2 : decode cX4_makeLevelBelow 2 = .ok (.invokevirtual 62, 3) := by decide +kernel
theorem dX4_makeLevelBelow_5 : decode cX4_makeLevelBelow 5 = .ok (.aload_n 0, 1) := by decide +kernel
theorem dX4_makeLevelBelow_6 : decode cX4_makeLevelBelow 6 = .ok (.getfield 25, 3) := by decide +kernel
theorem dX4_makeLevelBelow_9 : decode cX4_makeLevelBelow 9 = .ok (.iload_n 1, 1) := by decide +kernel
theorem dX4_makeLevelBelow_10 : decode cX4_makeLevelBelow 10 = .ok (.iaload, 1) := by decide +kernel
theorem dX4_makeLevelBelow_11 : decode cX4_makeLevelBelow 11 = .ok (.aload_n 0, 1) := by decide +kernel
theorem dX4_makeLevelBelow_12 : decode cX4_makeLevelBelow 12 = .ok (.getfield 28, 3) := by decide +kernel
theorem dX4_makeLevelBelow_15 : decode cX4_makeLevelBelow 15 = .ok (.iload_n 1, 1) := by decide +kernel
theorem dX4_makeLevelBelow_16 : decode cX4_makeLevelBelow 16 = .ok (.iaload, 1) := by decide +kernel
theorem dX4_makeLevelBelow_17 : decode cX4_makeLevelBelow 17 = .ok (.iadd, 1) := by decide +kernel
theorem dX4_makeLevelBelow_18 : decode cX4_makeLevelBelow 18 = .ok (.istore_n 2, 1) := by decide +kernel
theorem dX4_makeLevelBelow_19 : decode cX4_makeLevelBelow 19 = .ok (.aload_n 0, 1) := by decide +kernel
theorem dX4_makeLevelBelow_20 : decode cX4_makeLevelBelow 20 = .ok (.iload_n 1, 1) := by decide +kernel
theorem dX4_makeLevelBelow_21 : decode cX4_makeLevelBelow 21 = .ok (.iload_n 2, 1) := by decide +kernel
theorem dX4_makeLevelBelow_22 : decode cX4_makeLevelBelow 22 = .ok (.invokevirtual 65, 3) := by decide +kernel
theorem dX4_makeLevelBelow_25 : decode cX4_makeLevelBelow 25 = .ok (.istore_n 3, 1) := by decide +kernel
theorem dX4_makeLevelBelow_26 : decode cX4_makeLevelBelow 26 = .ok (.aload_n 0, 1) := by decide +kernel
theorem dX4_makeLevelBelow_27 : decode cX4_makeLevelBelow 27 = .ok (.getfield 22, 3) := by decide +kernel
theorem dX4_makeLevelBelow_30 : decode cX4_makeLevelBelow 30 = .ok (.iload_n 2, 1) := by decide +kernel
theorem dX4_makeLevelBelow_31 : decode cX4_makeLevelBelow 31 = .ok (.aload_n 0, 1) := by decide +kernel
theorem dX4_makeLevelBelow_32 : decode cX4_makeLevelBelow 32 = .ok (.getfield 34, 3) := by decide +kernel
theorem dX4_makeLevelBelow_35 : decode cX4_makeLevelBelow 35 = .ok (.iconst 0, 1) := by decide +kernel
theorem dX4_makeLevelBelow_36 : decode cX4_makeLevelBelow 36 = .ok (.iload_n 3, 1) := by decide +kernel
theorem dX4_makeLevelBelow_37 : decode cX4_makeLevelBelow 37 = .ok (.invokestatic 46, 3) := by decide +kernel
theorem dX4_makeLevelBelow_40 : decode cX4_makeLevelBelow 40 = .ok (.aload_n 0, 1) := by decide +kernel
theorem dX4_makeLevelBelow_41 : decode cX4_makeLevelBelow 41 = .ok (.iload_n 1, 1) := by decide +kernel
theorem dX4_makeLevelBelow_42 : decode cX4_makeLevelBelow 42 = .ok (.iload_n 3, 1) := by decide +kernel
theorem dX4_makeLevelBelow_43 : decode cX4_makeLevelBelow 43 = .ok (.invokevirtual 69, 3) := by decide +kernel
theorem dX4_makeLevelBelow_46 : decode cX4_makeLevelBelow 46 = .ok (.aload_n 0, 1) := by decide +kernel
theorem dX4_makeLevelBelow_47 : decode cX4_makeLevelBelow 47 = .ok (.getfield 25, 3) := by decide +kernel
theorem dX4_makeLevelBelow_50 : decode cX4_makeLevelBelow 50 = .ok (.iload_n 1, 1) := by decide +kernel
theorem dX4_makeLevelBelow_51 : decode cX4_makeLevelBelow 51 = .ok (.iconst 1, 1) := by decide +kernel
theorem dX4_makeLevelBelow_52 : decode cX4_makeLevelBelow 52 = .ok (.iadd, 1) := by decide +kernel
theorem dX4_makeLevelBelow_53 : decode cX4_makeLevelBelow 53 = .ok (.iload_n 2, 1) := by decide +kernel
theorem dX4_makeLevelBelow_54 : decode cX4_makeLevelBelow 54 = .ok (.iastore, 1) := by decide +kernel
theorem dX4_makeLevelBelow_55 : decode cX4_makeLevelBelow 55 = .ok (.aload_n 0, 1) := by decide +kernel
theorem dX4_makeLevelBelow_56 : decode cX4_makeLevelBelow 56 = .ok (.getfield 28, 3) := by decide +kernel
theorem dX4_makeLevelBelow_59 : decode cX4_makeLevelBelow 59 = .ok (.iload_n 1, 1) := by decide +kernel
theorem dX4_makeLevelBelow_60 : decode cX4_makeLevelBelow 60 = .ok (.iconst 1, 1) := by decide +kernel
theorem dX4_makeLevelBelow_61 : decode cX4_makeLevelBelow 61 = .ok (.iadd, 1) := by decide +kernel
theorem dX4_makeLevelBelow_62 : decode cX4_makeLevelBelow 62 = .ok (.iload_n 3, 1) := by decide +kernel
theorem dX4_makeLevelBelow_63 : decode cX4_makeLevelBelow 63 = .ok (.iastore, 1) := by decide +kernel
theorem dX4_makeLevelBelow_64 : decode cX4_makeLevelBelow 64 = .ok (.aload_n 0, 1) := by decide +kernel
theorem dX4_makeLevelBelow_65 : decode cX4_makeLevelBelow 65 = .ok (.getfield 31, 3) := by decide +kernel
theorem dX4_makeLevelBelow_68 : decode cX4_makeLevelBelow 68 = .ok (.iload_n 1, 1) := by decide +kernel
theorem dX4_makeLevelBelow_69 : decode cX4_makeLevelBelow 69 = .ok (.iconst 1, 1) := by decide +kernel
theorem dX4_makeLevelBelow_70 : decode cX4_makeLevelBelow 70 = .ok (.iadd, 1) := by decide +kernel
theorem dX4_makeLevelBelow_71 : decode cX4_makeLevelBelow 71 = .ok (.aload_n 0, 1) := by decide +kernel
theorem dX4_makeLevelBelow_72 : decode cX4_makeLevelBelow 72 = .ok (.iload_n 1, 1) := by decide +kernel
theorem dX4_makeLevelBelow_73 : decode cX4_makeLevelBelow 73 = .ok (.invokevirtual 73, 3) := by decide +kernel
theorem dX4_makeLevelBelow_76 : decode cX4_makeLevelBelow 76 = .ok (.iastore, 1) := by decide +kernel
theorem dX4_makeLevelBelow_77 : decode cX4_makeLevelBelow 77 = .ok (.iconst 0, 1) := by decide +kernel
theorem dX4_makeLevelBelow_78 : decode cX4_makeLevelBelow 78 = .ok (.istore 4, 2) := by decide +kernel
theorem dX4_makeLevelBelow_80 : decode cX4_makeLevelBelow 80 = .ok (.iload 4, 2) := by decide +kernel
theorem dX4_makeLevelBelow_82 : decode cX4_makeLevelBelow 82 = .ok (.iload_n 3, 1) := by decide +kernel
theorem dX4_makeLevelBelow_83 : decode cX4_makeLevelBelow 83 = .ok (.if_icmp .ge 32, 3) := by decide +kernel
theorem dX4_makeLevelBelow_86 : decode cX4_makeLevelBelow 86 = .ok (.aload_n 0, 1) := by decide +kernel
theorem dX4_makeLevelBelow_87 : decode cX4_makeLevelBelow 87 = .ok (.getfield 15, 3) := by decide +kernel
theorem dX4_makeLevelBelow_90 : decode cX4_makeLevelBelow 90 = .ok (.iload_n 2, 1) := by decide +kernel
theorem dX4_makeLevelBelow_91 : decode cX4_makeLevelBelow 91 = .ok (.iload 4, 2) := by decide +kernel
theorem dX4_makeLevelBelow_93 : decode cX4_makeLevelBelow 93 = .ok (.iadd, 1) := by decide +kernel
theorem dX4_makeLevelBelow_94 : decode cX4_makeLevelBelow 94 = .ok (.aload_n 0, 1) := by decide +kernel
theorem dX4_makeLevelBelow_95 : decode cX4_makeLevelBelow 95 = .ok (.getfield 37, 3) := by decide +kernel
theorem dX4_makeLevelBelow_98 : decode cX4_makeLevelBelow 98 = .ok (.aload_n 0, 1) := by decide +kernel
theorem dX4_makeLevelBelow_99 : decode cX4_makeLevelBelow 99 = .ok (.getfield 22, 3) := by decide +kernel
theorem dX4_makeLevelBelow_102 : decode cX4_makeLevelBelow 102 = .ok (.iload_n 2, 1) := by decide +kernel
theorem dX4_makeLevelBelow_103 : decode cX4_makeLevelBelow 103 = .ok (.iload 4, 2) := by decide +kernel
theorem dX4_makeLevelBelow_105 : decode cX4_makeLevelBelow 105 = .ok (.iadd, 1) := by decide +kernel
theorem dX4_makeLevelBelow_106 : decode cX4_makeLevelBelow 106 = .ok (.iaload, 1) := by decide +kernel
theorem dX4_makeLevelBelow_107 : decode cX4_makeLevelBelow 107 = .ok (.iaload, 1) := by decide +kernel
theorem dX4_makeLevelBelow_108 : decode cX4_makeLevelBelow 108 = .ok (.iastore, 1) := by decide +kernel
theorem dX4_makeLevelBelow_109 : decode cX4_makeLevelBelow 109 = .ok (.iinc 4 1, 3) := by decide +kernel
theorem dX4_makeLevelBelow_112 : decode cX4_makeLevelBelow 112 = .ok (.goto (-32), 3) := by decide +kernel
theorem dX4_makeLevelBelow_115 : decode cX4_makeLevelBelow 115 = .ok (.return_, 1) := by decide +kernel
theorem dX4_markRises_0 : decode cX4_markRises 0 = .ok (.aload_n 0, 1) := by decide +kernel
theorem dX4_markRises_1 : decode cX4_markRises 1 = .ok (.getfield 25, 3) := by decide +kernel
theorem dX4_markRises_4 : decode cX4_markRises 4 = .ok (.iload_n 1, 1) := by decide +kernel
theorem dX4_markRises_5 : decode cX4_markRises 5 = .ok (.iaload, 1) := by decide +kernel
theorem dX4_markRises_6 : decode cX4_markRises 6 = .ok (.istore_n 2, 1) := by decide +kernel
theorem dX4_markRises_7 : decode cX4_markRises 7 = .ok (.iconst 0, 1) := by decide +kernel
theorem dX4_markRises_8 : decode cX4_markRises 8 = .ok (.istore_n 3, 1) := by decide +kernel
theorem dX4_markRises_9 : decode cX4_markRises 9 = .ok (.aload_n 0, 1) := by decide +kernel
theorem dX4_markRises_10 : decode cX4_markRises 10 = .ok (.getfield 28, 3) := by decide +kernel
theorem dX4_markRises_13 : decode cX4_markRises 13 = .ok (.iload_n 1, 1) := by decide +kernel
theorem dX4_markRises_14 : decode cX4_markRises 14 = .ok (.iaload, 1) := by decide +kernel
theorem dX4_markRises_15 : decode cX4_markRises 15 = .ok (.iconst 1, 1) := by decide +kernel
theorem dX4_markRises_16 : decode cX4_markRises 16 = .ok (.isub, 1) := by decide +kernel
theorem dX4_markRises_17 : decode cX4_markRises 17 = .ok (.istore 4, 2) := by decide +kernel
theorem dX4_markRises_19 : decode cX4_markRises 19 = .ok (.iload 4, 2) := by decide +kernel
theorem dX4_markRises_21 : decode cX4_markRises 21 = .ok (.ifCond .lt 84, 3) := by decide +kernel
theorem dX4_markRises_24 : decode cX4_markRises 24 = .ok (.iload 4, 2) := by decide +kernel
theorem dX4_markRises_26 : decode cX4_markRises 26 = .ok (.iconst 1, 1) := by decide +kernel
theorem dX4_markRises_27 : decode cX4_markRises 27 = .ok (.iadd, 1) := by decide +kernel
theorem dX4_markRises_28 : decode cX4_markRises 28 = .ok (.aload_n 0, 1) := by decide +kernel
theorem dX4_markRises_29 : decode cX4_markRises 29 = .ok (.getfield 28, 3) := by decide +kernel
theorem dX4_markRises_32 : decode cX4_markRises 32 = .ok (.iload_n 1, 1) := by decide +kernel
theorem dX4_markRises_33 : decode cX4_markRises 33 = .ok (.iaload, 1) := by decide +kernel
theorem dX4_markRises_34 : decode cX4_markRises 34 = .ok (.if_icmp .ge 55, 3) := by decide +kernel
theorem dX4_markRises_37 : decode cX4_markRises 37 = .ok (.aload_n 0, 1) := by decide +kernel
theorem dX4_markRises_38 : decode cX4_markRises 38 = .ok (.getfield 15, 3) := by decide +kernel
theorem dX4_markRises_41 : decode cX4_markRises 41 = .ok (.iload_n 2, 1) := by decide +kernel
theorem dX4_markRises_42 : decode cX4_markRises 42 = .ok (.iload 4, 2) := by decide +kernel
theorem dX4_markRises_44 : decode cX4_markRises 44 = .ok (.iadd, 1) := by decide +kernel
theorem dX4_markRises_45 : decode cX4_markRises 45 = .ok (.iaload, 1) := by decide +kernel
theorem dX4_markRises_46 : decode cX4_markRises 46 = .ok (.aload_n 0, 1) := by decide +kernel
theorem dX4_markRises_47 : decode cX4_markRises 47 = .ok (.getfield 15, 3) := by decide +kernel
theorem dX4_markRises_50 : decode cX4_markRises 50 = .ok (.iload_n 2, 1) := by decide +kernel
theorem dX4_markRises_51 : decode cX4_markRises 51 = .ok (.iload 4, 2) := by decide +kernel
theorem dX4_markRises_53 : decode cX4_markRises 53 = .ok (.iadd, 1) := by decide +kernel
theorem dX4_markRises_54 : decode cX4_markRises 54 = .ok (.iconst 1, 1) := by decide +kernel
theorem dX4_markRises_55 : decode cX4_markRises 55 = .ok (.iadd, 1) := by decide +kernel
theorem dX4_markRises_56 : decode cX4_markRises 56 = .ok (.iaload, 1) := by decide +kernel
theorem dX4_markRises_57 : decode cX4_markRises 57 = .ok (.if_icmp .eq 32, 3) := by decide +kernel
theorem dX4_markRises_60 : decode cX4_markRises 60 = .ok (.aload_n 0, 1) := by decide +kernel
theorem dX4_markRises_61 : decode cX4_markRises 61 = .ok (.getfield 15, 3) := by decide +kernel
theorem dX4_markRises_64 : decode cX4_markRises 64 = .ok (.iload_n 2, 1) := by decide +kernel
theorem dX4_markRises_65 : decode cX4_markRises 65 = .ok (.iload 4, 2) := by decide +kernel
theorem dX4_markRises_67 : decode cX4_markRises 67 = .ok (.iadd, 1) := by decide +kernel
theorem dX4_markRises_68 : decode cX4_markRises 68 = .ok (.iaload, 1) := by decide +kernel
theorem dX4_markRises_69 : decode cX4_markRises 69 = .ok (.aload_n 0, 1) := by decide +kernel
theorem dX4_markRises_70 : decode cX4_markRises 70 = .ok (.getfield 15, 3) := by decide +kernel
theorem dX4_markRises_73 : decode cX4_markRises 73 = .ok (.iload_n 2, 1) := by decide +kernel
theorem dX4_markRises_74 : decode cX4_markRises 74 = .ok (.iload 4, 2) := by decide +kernel
theorem dX4_markRises_76 : decode cX4_markRises 76 = .ok (.iadd, 1) := by decide +kernel
theorem dX4_markRises_77 : decode cX4_markRises 77 = .ok (.iconst 1, 1) := by decide +kernel
theorem dX4_markRises_78 : decode cX4_markRises 78 = .ok (.iadd, 1) := by decide +kernel
theorem dX4_markRises_79 : decode cX4_markRises 79 = .ok (.iaload, 1) := by decide +kernel
theorem dX4_markRises_80 : decode cX4_markRises 80 = .ok (.if_icmp .ge 7, 3) := by decide +kernel
theorem dX4_markRises_83 : decode cX4_markRises 83 = .ok (.iconst 1, 1) := by decide +kernel
theorem dX4_markRises_84 : decode cX4_markRises 84 = .ok (.goto 4, 3) := by decide +kernel
theorem dX4_markRises_87 : decode cX4_markRises 87 = .ok (.iconst 0, 1) := by decide +kernel
theorem dX4_markRises_88 : decode cX4_markRises 88 = .ok (.istore_n 3, 1) := by decide +kernel
theorem dX4_markRises_89 : decode cX4_markRises 89 = .ok (.aload_n 0, 1) := by decide +kernel
theorem dX4_markRises_90 : decode cX4_markRises 90 = .ok (.getfield 18, 3) := by decide +kernel
theorem dX4_markRises_93 : decode cX4_markRises 93 = .ok (.iload_n 2, 1) := by decide +kernel
theorem dX4_markRises_94 : decode cX4_markRises 94 = .ok (.iload 4, 2) := by decide +kernel
theorem dX4_markRises_96 : decode cX4_markRises 96 = .ok (.iadd, 1) := by decide +kernel
theorem dX4_markRises_97 : decode cX4_markRises 97 = .ok (.iload_n 3, 1) := by decide +kernel
theorem dX4_markRises_98 : decode cX4_markRises 98 = .ok (.bastore, 1) := by decide +kernel
theorem dX4_markRises_99 : decode cX4_markRises 99 = .ok (.iinc 4 (-1), 3) := by decide +kernel
theorem dX4_markRises_102 : decode cX4_markRises 102 = .ok (.goto (-83), 3) := by decide +kernel
theorem dX4_markRises_105 : decode cX4_markRises 105 = .ok (.return_, 1) := by decide +kernel
theorem dX4_collectTurns_0 : decode cX4_collectTurns 0 = .ok (.iconst 0, 1) := by decide +kernel
theorem dX4_collectTurns_1 : decode cX4_collectTurns 1 = .ok (.istore_n 3, 1) := by decide +kernel
theorem dX4_collectTurns_2 : decode cX4_collectTurns 2 = .ok (.iconst 1, 1) := by decide +kernel
theorem dX4_collectTurns_3 : decode cX4_collectTurns 3 = .ok (.istore 4, 2) := by decide +kernel
theorem dX4_collectTurns_5 : decode cX4_collectTurns 5 = .ok (.iload 4, 2) := by decide +kernel
theorem dX4_collectTurns_7 : decode cX4_collectTurns 7 = .ok (.aload_n 0, 1) := by decide +kernel
theorem dX4_collectTurns_8 : decode cX4_collectTurns 8 = .ok (.getfield 28, 3) := by decide +kernel
theorem dX4_collectTurns_11 : decode cX4_collectTurns 11 = .ok (.iload_n 1, 1) := by decide +kernel
theorem dX4_collectTurns_12 : decode cX4_collectTurns 12 = .ok (.iaload, 1) := by decide +kernel
theorem dX4_collectTurns_13 : decode cX4_collectTurns 13 = .ok (.if_icmp .ge 32, 3) := by decide +kernel
theorem dX4_collectTurns_16 : decode cX4_collectTurns 16 = .ok (.aload_n 0, 1) := by decide +kernel
theorem dX4_collectTurns_17 : decode cX4_collectTurns 17 = .ok (.iload_n 1, 1) := by decide +kernel
theorem dX4_collectTurns_18 : decode cX4_collectTurns 18 = .ok (.iload 4, 2) := by decide +kernel
theorem dX4_collectTurns_20 : decode cX4_collectTurns 20 = .ok (.invokevirtual 77, 3) := by decide +kernel
theorem dX4_collectTurns_23 : decode cX4_collectTurns 23 = .ok (.ifCond .eq 16, 3) := by decide +kernel
theorem dX4_collectTurns_26 : decode cX4_collectTurns 26 = .ok (.aload_n 0, 1) := by decide +kernel
theorem dX4_collectTurns_27 : decode cX4_collectTurns 27 = .ok (.getfield 22, 3) := by decide +kernel
theorem dX4_collectTurns_30 : decode cX4_collectTurns 30 = .ok (.iload_n 2, 1) := by decide +kernel
theorem dX4_collectTurns_31 : decode cX4_collectTurns 31 = .ok (.iload_n 3, 1) := by decide +kernel
theorem dX4_collectTurns_32 : decode cX4_collectTurns 32 = .ok (.iadd, 1) := by decide +kernel
theorem dX4_collectTurns_33 : decode cX4_collectTurns 33 = .ok (.iload 4, 2) := by decide +kernel
theorem dX4_collectTurns_35 : decode cX4_collectTurns 35 = .ok (.iastore, 1) := by decide +kernel
theorem dX4_collectTurns_36 : decode cX4_collectTurns 36 = .ok (.iinc 3 1, 3) := by decide +kernel
theorem dX4_collectTurns_39 : decode cX4_collectTurns 39 = .ok (.iinc 4 1, 3) := by decide +kernel
theorem dX4_collectTurns_42 : decode cX4_collectTurns 42 = .ok (.goto (-37), 3) := by decide +kernel
theorem dX4_collectTurns_45 : decode cX4_collectTurns 45 = .ok (.iload_n 3, 1) := by decide +kernel
theorem dX4_collectTurns_46 : decode cX4_collectTurns 46 = .ok (.ireturn, 1) := by decide +kernel
theorem dX4_isTurn_0 : decode cX4_isTurn 0 = .ok (.aload_n 0, 1) := by decide +kernel
theorem dX4_isTurn_1 : decode cX4_isTurn 1 = .ok (.getfield 25, 3) := by decide +kernel
theorem dX4_isTurn_4 : decode cX4_isTurn 4 = .ok (.iload_n 1, 1) := by decide +kernel
theorem dX4_isTurn_5 : decode cX4_isTurn 5 = .ok (.iaload, 1) := by decide +kernel
theorem dX4_isTurn_6 : decode cX4_isTurn 6 = .ok (.istore_n 3, 1) := by decide +kernel
theorem dX4_isTurn_7 : decode cX4_isTurn 7 = .ok (.iload_n 2, 1) := by decide +kernel
theorem dX4_isTurn_8 : decode cX4_isTurn 8 = .ok (.ifCond .le 31, 3) := by decide +kernel
theorem dX4_isTurn_11 : decode cX4_isTurn 11 = .ok (.aload_n 0, 1) := by decide +kernel
theorem dX4_isTurn_12 : decode cX4_isTurn 12 = .ok (.getfield 18, 3) := by decide +kernel
theorem dX4_isTurn_15 : decode cX4_isTurn 15 = .ok (.iload_n 3, 1) := by decide +kernel
theorem dX4_isTurn_16 : decode cX4_isTurn 16 = .ok (.iload_n 2, 1) := by decide +kernel
theorem dX4_isTurn_17 : decode cX4_isTurn 17 = .ok (.iadd, 1) := by decide +kernel
theorem dX4_isTurn_18 : decode cX4_isTurn 18 = .ok (.baload, 1) := by decide +kernel
theorem dX4_isTurn_19 : decode cX4_isTurn 19 = .ok (.ifCond .eq 20, 3) := by decide +kernel
theorem dX4_isTurn_22 : decode cX4_isTurn 22 = .ok (.aload_n 0, 1) := by decide +kernel
theorem dX4_isTurn_23 : decode cX4_isTurn 23 = .ok (.getfield 18, 3) := by decide +kernel
theorem dX4_isTurn_26 : decode cX4_isTurn 26 = .ok (.iload_n 3, 1) := by decide +kernel
theorem dX4_isTurn_27 : decode cX4_isTurn 27 = .ok (.iload_n 2, 1) := by decide +kernel
theorem dX4_isTurn_28 : decode cX4_isTurn 28 = .ok (.iadd, 1) := by decide +kernel
theorem dX4_isTurn_29 : decode cX4_isTurn 29 = .ok (.iconst 1, 1) := by decide +kernel
theorem dX4_isTurn_30 : decode cX4_isTurn 30 = .ok (.isub, 1) := by decide +kernel
theorem dX4_isTurn_31 : decode cX4_isTurn 31 = .ok (.baload, 1) := by decide +kernel
theorem dX4_isTurn_32 : decode cX4_isTurn 32 = .ok (.ifCond .ne 7, 3) := by decide +kernel
theorem dX4_isTurn_35 : decode cX4_isTurn 35 = .ok (.iconst 1, 1) := by decide +kernel
theorem dX4_isTurn_36 : decode cX4_isTurn 36 = .ok (.goto 4, 3) := by decide +kernel
theorem dX4_isTurn_39 : decode cX4_isTurn 39 = .ok (.iconst 0, 1) := by decide +kernel
theorem dX4_isTurn_40 : decode cX4_isTurn 40 = .ok (.ireturn, 1) := by decide +kernel
theorem dX4_namePieces_0 : decode cX4_namePieces 0 = .ok (.iconst 0, 1) := by decide +kernel
theorem dX4_namePieces_1 : decode cX4_namePieces 1 = .ok (.istore_n 2, 1) := by decide +kernel
theorem dX4_namePieces_2 : decode cX4_namePieces 2 = .ok (.iconst (-1), 1) := by decide +kernel
theorem dX4_namePieces_3 : decode cX4_namePieces 3 = .ok (.istore_n 3, 1) := by decide +kernel
theorem dX4_namePieces_4 : decode cX4_namePieces 4 = .ok (.iconst 0, 1) := by decide +kernel
theorem dX4_namePieces_5 : decode cX4_namePieces 5 = .ok (.istore 4, 2) := by decide +kernel
theorem dX4_namePieces_7 : decode cX4_namePieces 7 = .ok (.iload 4, 2) := by decide +kernel
theorem dX4_namePieces_9 : decode cX4_namePieces 9 = .ok (.aload_n 0, 1) := by decide +kernel
theorem dX4_namePieces_10 : decode cX4_namePieces 10 = .ok (.getfield 28, 3) := by decide +kernel
theorem dX4_namePieces_13 : decode cX4_namePieces 13 = .ok (.iload_n 1, 1) := by decide +kernel
theorem dX4_namePieces_14 : decode cX4_namePieces 14 = .ok (.iaload, 1) := by decide +kernel
theorem dX4_namePieces_15 : decode cX4_namePieces 15 = .ok (.if_icmp .ge 60, 3) := by decide +kernel
theorem dX4_namePieces_18 : decode cX4_namePieces 18 = .ok (.aload_n 0, 1) := by decide +kernel
theorem dX4_namePieces_19 : decode cX4_namePieces 19 = .ok (.getfield 9, 3) := by decide +kernel
theorem dX4_namePieces_22 : decode cX4_namePieces 22 = .ok (.iload 4, 2) := by decide +kernel
theorem dX4_namePieces_24 : decode cX4_namePieces 24 = .ok (.iaload, 1) := by decide +kernel
theorem dX4_namePieces_25 : decode cX4_namePieces 25 = .ok (.istore 5, 2) := by decide +kernel
theorem dX4_namePieces_27 : decode cX4_namePieces 27 = .ok (.aload_n 0, 1) := by decide +kernel
theorem dX4_namePieces_28 : decode cX4_namePieces 28 = .ok (.iload_n 1, 1) := by decide +kernel
theorem dX4_namePieces_29 : decode cX4_namePieces 29 = .ok (.iload 5, 2) := by decide +kernel
theorem dX4_namePieces_31 : decode cX4_namePieces 31 = .ok (.invokevirtual 77, 3) := by decide +kernel
theorem dX4_namePieces_34 : decode cX4_namePieces 34 = .ok (.ifCond .eq 35, 3) := by decide +kernel
theorem dX4_namePieces_37 : decode cX4_namePieces 37 = .ok (.iload_n 3, 1) := by decide +kernel
theorem dX4_namePieces_38 : decode cX4_namePieces 38 = .ok (.iconst (-1), 1) := by decide +kernel
theorem dX4_namePieces_39 : decode cX4_namePieces 39 = .ok (.if_icmp .eq 14, 3) := by decide +kernel
theorem dX4_namePieces_42 : decode cX4_namePieces 42 = .ok (.aload_n 0, 1) := by decide +kernel
theorem dX4_namePieces_43 : decode cX4_namePieces 43 = .ok (.iload_n 1, 1) := by decide +kernel
theorem dX4_namePieces_44 : decode cX4_namePieces 44 = .ok (.iload_n 3, 1) := by decide +kernel
theorem dX4_namePieces_45 : decode cX4_namePieces 45 = .ok (.iload 5, 2) := by decide +kernel
theorem dX4_namePieces_47 : decode cX4_namePieces 47 = .ok (.invokevirtual 81, 3) := by decide +kernel
theorem dX4_namePieces_50 : decode cX4_namePieces 50 = .ok (.ifCond .ne 6, 3) := by decide +kernel
theorem dX4_namePieces_53 : decode cX4_namePieces 53 = .ok (.iinc 2 1, 3) := by decide +kernel
theorem dX4_namePieces_56 : decode cX4_namePieces 56 = .ok (.aload_n 0, 1) := by decide +kernel
theorem dX4_namePieces_57 : decode cX4_namePieces 57 = .ok (.getfield 37, 3) := by decide +kernel
theorem dX4_namePieces_60 : decode cX4_namePieces 60 = .ok (.iload 5, 2) := by decide +kernel
theorem dX4_namePieces_62 : decode cX4_namePieces 62 = .ok (.iload_n 2, 1) := by decide +kernel
theorem dX4_namePieces_63 : decode cX4_namePieces 63 = .ok (.iconst 1, 1) := by decide +kernel
theorem dX4_namePieces_64 : decode cX4_namePieces 64 = .ok (.isub, 1) := by decide +kernel
theorem dX4_namePieces_65 : decode cX4_namePieces 65 = .ok (.iastore, 1) := by decide +kernel
theorem dX4_namePieces_66 : decode cX4_namePieces 66 = .ok (.iload 5, 2) := by decide +kernel
theorem dX4_namePieces_68 : decode cX4_namePieces 68 = .ok (.istore_n 3, 1) := by decide +kernel
theorem dX4_namePieces_69 : decode cX4_namePieces 69 = .ok (.iinc 4 1, 3) := by decide +kernel
theorem dX4_namePieces_72 : decode cX4_namePieces 72 = .ok (.goto (-65), 3) := by decide +kernel
theorem dX4_namePieces_75 : decode cX4_namePieces 75 = .ok (.iload_n 2, 1) := by decide +kernel
theorem dX4_namePieces_76 : decode cX4_namePieces 76 = .ok (.ireturn, 1) := by decide +kernel
theorem dX4_isSamePiece_0 : decode cX4_isSamePiece 0 = .ok (.aload_n 0, 1) := by decide +kernel
theorem dX4_isSamePiece_1 : decode cX4_isSamePiece 1 = .ok (.getfield 25, 3) := by decide +kernel
theorem dX4_isSamePiece_4 : decode cX4_isSamePiece 4 = .ok (.iload_n 1, 1) := by decide +kernel
theorem dX4_isSamePiece_5 : decode cX4_isSamePiece 5 = .ok (.iaload, 1) := by decide +kernel
theorem dX4_isSamePiece_6 : decode cX4_isSamePiece 6 = .ok (.istore 4, 2) := by decide +kernel
theorem dX4_isSamePiece_8 : decode cX4_isSamePiece 8 = .ok (.iconst 0, 1) := by decide +kernel
theorem dX4_isSamePiece_9 : decode cX4_isSamePiece 9 = .ok (.istore 5, 2) := by decide +kernel
theorem dX4_isSamePiece_11 : decode cX4_isSamePiece 11 = .ok (.iload_n 2, 1) := by decide +kernel
theorem dX4_isSamePiece_12 : decode cX4_isSamePiece 12 = .ok (.iload 5, 2) := by decide +kernel
theorem dX4_isSamePiece_14 : decode cX4_isSamePiece 14 = .ok (.iadd, 1) := by decide +kernel
theorem dX4_isSamePiece_15 : decode cX4_isSamePiece 15 = .ok (.aload_n 0, 1) := by decide +kernel
theorem dX4_isSamePiece_16 : decode cX4_isSamePiece 16 = .ok (.getfield 28, 3) := by decide +kernel
theorem dX4_isSamePiece_19 : decode cX4_isSamePiece 19 = .ok (.iload_n 1, 1) := by decide +kernel
theorem dX4_isSamePiece_20 : decode cX4_isSamePiece 20 = .ok (.iaload, 1) := by decide +kernel
theorem dX4_isSamePiece_21 : decode cX4_isSamePiece 21 = .ok (.if_icmp .ge 90, 3) := by decide +kernel
theorem dX4_isSamePiece_24 : decode cX4_isSamePiece 24 = .ok (.iload_n 3, 1) := by decide +kernel
theorem dX4_isSamePiece_25 : decode cX4_isSamePiece 25 = .ok (.iload 5, 2) := by decide +kernel
theorem dX4_isSamePiece_27 : decode cX4_isSamePiece 27 = .ok (.iadd, 1) := by decide +kernel
theorem dX4_isSamePiece_28 : decode cX4_isSamePiece 28 = .ok (.aload_n 0, 1) := by decide +kernel
theorem dX4_isSamePiece_29 : decode cX4_isSamePiece 29 = .ok (.getfield 28, 3) := by decide +kernel
theorem dX4_isSamePiece_32 : decode cX4_isSamePiece 32 = .ok (.iload_n 1, 1) := by decide +kernel
theorem dX4_isSamePiece_33 : decode cX4_isSamePiece 33 = .ok (.iaload, 1) := by decide +kernel
theorem dX4_isSamePiece_34 : decode cX4_isSamePiece 34 = .ok (.if_icmp .ge 77, 3) := by decide +kernel
theorem dX4_isSamePiece_37 : decode cX4_isSamePiece 37 = .ok (.aload_n 0, 1) := by decide +kernel
theorem dX4_isSamePiece_38 : decode cX4_isSamePiece 38 = .ok (.getfield 15, 3) := by decide +kernel
theorem dX4_isSamePiece_41 : decode cX4_isSamePiece 41 = .ok (.iload 4, 2) := by decide +kernel
theorem dX4_isSamePiece_43 : decode cX4_isSamePiece 43 = .ok (.iload_n 2, 1) := by decide +kernel
theorem dX4_isSamePiece_44 : decode cX4_isSamePiece 44 = .ok (.iadd, 1) := by decide +kernel
theorem dX4_isSamePiece_45 : decode cX4_isSamePiece 45 = .ok (.iload 5, 2) := by decide +kernel
theorem dX4_isSamePiece_47 : decode cX4_isSamePiece 47 = .ok (.iadd, 1) := by decide +kernel
theorem dX4_isSamePiece_48 : decode cX4_isSamePiece 48 = .ok (.iaload, 1) := by decide +kernel
theorem dX4_isSamePiece_49 : decode cX4_isSamePiece 49 = .ok (.aload_n 0, 1) := by decide +kernel
theorem dX4_isSamePiece_50 : decode cX4_isSamePiece 50 = .ok (.getfield 15, 3) := by decide +kernel
theorem dX4_isSamePiece_53 : decode cX4_isSamePiece 53 = .ok (.iload 4, 2) := by decide +kernel
theorem dX4_isSamePiece_55 : decode cX4_isSamePiece 55 = .ok (.iload_n 3, 1) := by decide +kernel
theorem dX4_isSamePiece_56 : decode cX4_isSamePiece 56 = .ok (.iadd, 1) := by decide +kernel
theorem dX4_isSamePiece_57 : decode cX4_isSamePiece 57 = .ok (.iload 5, 2) := by decide +kernel
theorem dX4_isSamePiece_59 : decode cX4_isSamePiece 59 = .ok (.iadd, 1) := by decide +kernel
theorem dX4_isSamePiece_60 : decode cX4_isSamePiece 60 = .ok (.iaload, 1) := by decide +kernel
theorem dX4_isSamePiece_61 : decode cX4_isSamePiece 61 = .ok (.if_icmp .eq 5, 3) := by decide +kernel
theorem dX4_isSamePiece_64 : decode cX4_isSamePiece 64 = .ok (.iconst 0, 1) := by decide +kernel
theorem dX4_isSamePiece_65 : decode cX4_isSamePiece 65 = .ok (.ireturn, 1) := by decide +kernel
theorem dX4_isSamePiece_66 : decode cX4_isSamePiece 66 = .ok (.aload_n 0, 1) := by decide +kernel
theorem dX4_isSamePiece_67 : decode cX4_isSamePiece 67 = .ok (.iload_n 1, 1) := by decide +kernel
theorem dX4_isSamePiece_68 : decode cX4_isSamePiece 68 = .ok (.iload_n 2, 1) := by decide +kernel
theorem dX4_isSamePiece_69 : decode cX4_isSamePiece 69 = .ok (.iload 5, 2) := by decide +kernel
theorem dX4_isSamePiece_71 : decode cX4_isSamePiece 71 = .ok (.iadd, 1) := by decide +kernel
theorem dX4_isSamePiece_72 : decode cX4_isSamePiece 72 = .ok (.invokevirtual 77, 3) := by decide +kernel
theorem dX4_isSamePiece_75 : decode cX4_isSamePiece 75 = .ok (.istore 6, 2) := by decide +kernel
theorem dX4_isSamePiece_77 : decode cX4_isSamePiece 77 = .ok (.iload 6, 2) := by decide +kernel
theorem dX4_isSamePiece_79 : decode cX4_isSamePiece 79 = .ok (.aload_n 0, 1) := by decide +kernel
theorem dX4_isSamePiece_80 : decode cX4_isSamePiece 80 = .ok (.iload_n 1, 1) := by decide +kernel
theorem dX4_isSamePiece_81 : decode cX4_isSamePiece 81 = .ok (.iload_n 3, 1) := by decide +kernel
theorem dX4_isSamePiece_82 : decode cX4_isSamePiece 82 = .ok (.iload 5, 2) := by decide +kernel
theorem dX4_isSamePiece_84 : decode cX4_isSamePiece 84 = .ok (.iadd, 1) := by decide +kernel
theorem dX4_isSamePiece_85 : decode cX4_isSamePiece 85 = .ok (.invokevirtual 77, 3) := by decide +kernel
theorem dX4_isSamePiece_88 : decode cX4_isSamePiece 88 = .ok (.if_icmp .eq 5, 3) := by decide +kernel
theorem dX4_isSamePiece_91 : decode cX4_isSamePiece 91 = .ok (.iconst 0, 1) := by decide +kernel
theorem dX4_isSamePiece_92 : decode cX4_isSamePiece 92 = .ok (.ireturn, 1) := by decide +kernel
theorem dX4_isSamePiece_93 : decode cX4_isSamePiece 93 = .ok (.iload 6, 2) := by decide +kernel
theorem dX4_isSamePiece_95 : decode cX4_isSamePiece 95 = .ok (.ifCond .eq 10, 3) := by decide +kernel
theorem dX4_isSamePiece_98 : decode cX4_isSamePiece 98 = .ok (.iload 5, 2) := by decide +kernel
theorem dX4_isSamePiece_100 : decode cX4_isSamePiece 100 = .ok (.ifCond .le 5, 3) := by decide +kernel
theorem dX4_isSamePiece_103 : decode cX4_isSamePiece 103 = .ok (.iconst 1, 1) := by decide +kernel
theorem dX4_isSamePiece_104 : decode cX4_isSamePiece 104 = .ok (.ireturn, 1) := by decide +kernel
theorem dX4_isSamePiece_105 : decode cX4_isSamePiece 105 = .ok (.iinc 5 1, 3) := by decide +kernel
theorem dX4_isSamePiece_108 : decode cX4_isSamePiece 108 = .ok (.goto (-97), 3) := by decide +kernel
theorem dX4_isSamePiece_111 : decode cX4_isSamePiece 111 = .ok (.iconst 0, 1) := by decide +kernel
theorem dX4_isSamePiece_112 : decode cX4_isSamePiece 112 = .ok (.ireturn, 1) := by decide +kernel
theorem dX4_orderByNames_0 : decode cX4_orderByNames 0 = .ok (.iconst 0, 1) := by decide +kernel
theorem dX4_orderByNames_1 : decode cX4_orderByNames 1 = .ok (.istore_n 2, 1) := by decide +kernel
theorem dX4_orderByNames_2 : decode cX4_orderByNames 2 = .ok (.iload_n 2, 1) := by decide +kernel
theorem dX4_orderByNames_3 : decode cX4_orderByNames 3 = .ok (.aload_n 0, 1) := by decide +kernel
theorem dX4_orderByNames_4 : decode cX4_orderByNames 4 = .ok (.getfield 28, 3) := by decide +kernel
theorem dX4_orderByNames_7 : decode cX4_orderByNames 7 = .ok (.iload_n 1, 1) := by decide +kernel
theorem dX4_orderByNames_8 : decode cX4_orderByNames 8 = .ok (.iaload, 1) := by decide +kernel
theorem dX4_orderByNames_9 : decode cX4_orderByNames 9 = .ok (.if_icmp .ge 28, 3) := by decide +kernel
theorem dX4_orderByNames_12 : decode cX4_orderByNames 12 = .ok (.aload_n 0, 1) := by decide +kernel
theorem dX4_orderByNames_13 : decode cX4_orderByNames 13 = .ok (.getfield 9, 3) := by decide +kernel
theorem dX4_orderByNames_16 : decode cX4_orderByNames 16 = .ok (.aload_n 0, 1) := by decide +kernel
theorem dX4_orderByNames_17 : decode cX4_orderByNames 17 = .ok (.getfield 15, 3) := by decide +kernel
theorem dX4_orderByNames_20 : decode cX4_orderByNames 20 = .ok (.aload_n 0, 1) := by decide +kernel
theorem dX4_orderByNames_21 : decode cX4_orderByNames 21 = .ok (.getfield 25, 3) := by decide +kernel
theorem dX4_orderByNames_24 : decode cX4_orderByNames 24 = .ok (.iload_n 1, 1) := by decide +kernel
theorem dX4_orderByNames_25 : decode cX4_orderByNames 25 = .ok (.iaload, 1) := by decide +kernel
theorem dX4_orderByNames_26 : decode cX4_orderByNames 26 = .ok (.iload_n 2, 1) := by decide +kernel
theorem dX4_orderByNames_27 : decode cX4_orderByNames 27 = .ok (.iadd, 1) := by decide +kernel
theorem dX4_orderByNames_28 : decode cX4_orderByNames 28 = .ok (.iaload, 1) := by decide +kernel
theorem dX4_orderByNames_29 : decode cX4_orderByNames 29 = .ok (.iload_n 2, 1) := by decide +kernel
theorem dX4_orderByNames_30 : decode cX4_orderByNames 30 = .ok (.iastore, 1) := by decide +kernel
theorem dX4_orderByNames_31 : decode cX4_orderByNames 31 = .ok (.iinc 2 1, 3) := by decide +kernel
theorem dX4_orderByNames_34 : decode cX4_orderByNames 34 = .ok (.goto (-32), 3) := by decide +kernel
theorem dX4_orderByNames_37 : decode cX4_orderByNames 37 = .ok (.return_, 1) := by decide +kernel
theorem dX4_orderFromBelow_0 : decode cX4_orderFromBelow 0 = .ok (.aload_n 0, 1) := by decide +kernel
theorem dX4_orderFromBelow_1 : decode cX4_orderFromBelow 1 = .ok (.getfield 28, 3) := by decide +kernel
theorem dX4_orderFromBelow_4 : decode cX4_orderFromBelow 4 = .ok (.iload_n 1, 1) := by decide +kernel
theorem dX4_orderFromBelow_5 : decode cX4_orderFromBelow 5 = .ok (.iconst 1, 1) := by decide +kernel
theorem dX4_orderFromBelow_6 : decode cX4_orderFromBelow 6 = .ok (.iadd, 1) := by decide +kernel
theorem dX4_orderFromBelow_7 : decode cX4_orderFromBelow 7 = .ok (.iaload, 1) := by decide +kernel
theorem dX4_orderFromBelow_8 : decode cX4_orderFromBelow 8 = .ok (.istore_n 2, 1) := by decide +kernel
theorem dX4_orderFromBelow_9 : decode cX4_orderFromBelow 9 = .ok (.iconst 0, 1) := by decide +kernel
theorem dX4_orderFromBelow_10 : decode cX4_orderFromBelow 10 = .ok (.istore_n 3, 1) := by decide +kernel
theorem dX4_orderFromBelow_11 : decode cX4_orderFromBelow 11 = .ok (.iload_n 3, 1) := by decide +kernel
theorem dX4_orderFromBelow_12 : decode cX4_orderFromBelow 12 = .ok (.iload_n 2, 1) := by decide +kernel
theorem dX4_orderFromBelow_13 : decode cX4_orderFromBelow 13 = .ok (.if_icmp .ge 35, 3) := by decide +kernel
theorem dX4_orderFromBelow_16 : decode cX4_orderFromBelow 16 = .ok (.aload_n 0, 1) := by decide +kernel
theorem dX4_orderFromBelow_17 : decode cX4_orderFromBelow 17 = .ok (.getfield 34, 3) := by decide +kernel
theorem dX4_orderFromBelow_20 : decode cX4_orderFromBelow 20 = .ok (.iload_n 3, 1) := by decide +kernel
theorem dX4_orderFromBelow_21 : decode cX4_orderFromBelow 21 = .ok (.aload_n 0, 1) := by decide +kernel
theorem dX4_orderFromBelow_22 : decode cX4_orderFromBelow 22 = .ok (.getfield 22, 3) := by decide +kernel
theorem dX4_orderFromBelow_25 : decode cX4_orderFromBelow 25 = .ok (.aload_n 0, 1) := by decide +kernel
theorem dX4_orderFromBelow_26 : decode cX4_orderFromBelow 26 = .ok (.getfield 25, 3) := by decide +kernel
theorem dX4_orderFromBelow_29 : decode cX4_orderFromBelow 29 = .ok (.iload_n 1, 1) := by decide +kernel
theorem dX4_orderFromBelow_30 : decode cX4_orderFromBelow 30 = .ok (.iconst 1, 1) := by decide +kernel
theorem dX4_orderFromBelow_31 : decode cX4_orderFromBelow 31 = .ok (.iadd, 1) := by decide +kernel
theorem dX4_orderFromBelow_32 : decode cX4_orderFromBelow 32 = .ok (.iaload, 1) := by decide +kernel
theorem dX4_orderFromBelow_33 : decode cX4_orderFromBelow 33 = .ok (.aload_n 0, 1) := by decide +kernel
theorem dX4_orderFromBelow_34 : decode cX4_orderFromBelow 34 = .ok (.getfield 9, 3) := by decide +kernel
theorem dX4_orderFromBelow_37 : decode cX4_orderFromBelow 37 = .ok (.iload_n 3, 1) := by decide +kernel
theorem dX4_orderFromBelow_38 : decode cX4_orderFromBelow 38 = .ok (.iaload, 1) := by decide +kernel
theorem dX4_orderFromBelow_39 : decode cX4_orderFromBelow 39 = .ok (.iadd, 1) := by decide +kernel
theorem dX4_orderFromBelow_40 : decode cX4_orderFromBelow 40 = .ok (.iaload, 1) := by decide +kernel
theorem dX4_orderFromBelow_41 : decode cX4_orderFromBelow 41 = .ok (.iastore, 1) := by decide +kernel
theorem dX4_orderFromBelow_42 : decode cX4_orderFromBelow 42 = .ok (.iinc 3 1, 3) := by decide +kernel
theorem dX4_orderFromBelow_45 : decode cX4_orderFromBelow 45 = .ok (.goto (-34), 3) := by decide +kernel
theorem dX4_orderFromBelow_48 : decode cX4_orderFromBelow 48 = .ok (.aload_n 0, 1) := by decide +kernel
theorem dX4_orderFromBelow_49 : decode cX4_orderFromBelow 49 = .ok (.iload_n 1, 1) := by decide +kernel
theorem dX4_orderFromBelow_50 : decode cX4_orderFromBelow 50 = .ok (.iload_n 2, 1) := by decide +kernel
theorem dX4_orderFromBelow_51 : decode cX4_orderFromBelow 51 = .ok (.invokevirtual 69, 3) := by decide +kernel
theorem dX4_orderFromBelow_54 : decode cX4_orderFromBelow 54 = .ok (.return_, 1) := by decide +kernel
theorem dX4_induce_0 : decode cX4_induce 0 = .ok (.aload_n 0, 1) := by decide +kernel
theorem dX4_induce_1 : decode cX4_induce 1 = .ok (.iload_n 1, 1) := by decide +kernel
theorem dX4_induce_2 : decode cX4_induce 2 = .ok (.invokevirtual 85, 3) := by decide +kernel
theorem dX4_induce_5 : decode cX4_induce 5 = .ok (.aload_n 0, 1) := by decide +kernel
theorem dX4_induce_6 : decode cX4_induce 6 = .ok (.getfield 9, 3) := by decide +kernel
theorem dX4_induce_9 : decode cX4_induce 9 = .ok (.iconst 0, 1) := by decide +kernel
theorem dX4_induce_10 : decode cX4_induce 10 = .ok (.aload_n 0, 1) := by decide +kernel
theorem dX4_induce_11 : decode cX4_induce 11 = .ok (.getfield 28, 3) := by decide +kernel
theorem dX4_induce_14 : decode cX4_induce 14 = .ok (.iload_n 1, 1) := by decide +kernel
theorem dX4_induce_15 : decode cX4_induce 15 = .ok (.iaload, 1) := by decide +kernel
theorem dX4_induce_16 : decode cX4_induce 16 = .ok (.iconst (-1), 1) := by decide +kernel
theorem dX4_induce_17 : decode cX4_induce 17 = .ok (.invokestatic 88, 3) := by decide +kernel
theorem dX4_induce_20 : decode cX4_induce 20 = .ok (.aload_n 0, 1) := by decide +kernel
theorem dX4_induce_21 : decode cX4_induce 21 = .ok (.iload_n 1, 1) := by decide +kernel
theorem dX4_induce_22 : decode cX4_induce 22 = .ok (.iload_n 2, 1) := by decide +kernel
theorem dX4_induce_23 : decode cX4_induce 23 = .ok (.invokevirtual 94, 3) := by decide +kernel
theorem dX4_induce_26 : decode cX4_induce 26 = .ok (.aload_n 0, 1) := by decide +kernel
theorem dX4_induce_27 : decode cX4_induce 27 = .ok (.iload_n 1, 1) := by decide +kernel
theorem dX4_induce_28 : decode cX4_induce 28 = .ok (.invokevirtual 97, 3) := by decide +kernel
theorem dX4_induce_31 : decode cX4_induce 31 = .ok (.aload_n 0, 1) := by decide +kernel
theorem dX4_induce_32 : decode cX4_induce 32 = .ok (.iload_n 1, 1) := by decide +kernel
theorem dX4_induce_33 : decode cX4_induce 33 = .ok (.invokevirtual 100, 3) := by decide +kernel
theorem dX4_induce_36 : decode cX4_induce 36 = .ok (.return_, 1) := by decide +kernel
theorem dX4_countLetters_0 : decode cX4_countLetters 0 = .ok (.aload_n 0, 1) := by decide +kernel
theorem dX4_countLetters_1 : decode cX4_countLetters 1 = .ok (.getfield 40, 3) := by decide +kernel
theorem dX4_countLetters_4 : decode cX4_countLetters 4 = .ok (.iconst 0, 1) := by decide +kernel
theorem dX4_countLetters_5 : decode cX4_countLetters 5 = .ok (.aload_n 0, 1) := by decide +kernel
theorem dX4_countLetters_6 : decode cX4_countLetters 6 = .ok (.getfield 31, 3) := by decide +kernel
theorem dX4_countLetters_9 : decode cX4_countLetters 9 = .ok (.iload_n 1, 1) := by decide +kernel
theorem dX4_countLetters_10 : decode cX4_countLetters 10 = .ok (.iaload, 1) := by decide +kernel
theorem dX4_countLetters_11 : decode cX4_countLetters 11 = .ok (.iconst 1, 1) := by decide +kernel
theorem dX4_countLetters_12 : decode cX4_countLetters 12 = .ok (.iadd, 1) := by decide +kernel
theorem dX4_countLetters_13 : decode cX4_countLetters 13 = .ok (.iconst 0, 1) := by decide +kernel
theorem dX4_countLetters_14 : decode cX4_countLetters 14 = .ok (.invokestatic 88, 3) := by decide +kernel
theorem dX4_countLetters_17 : decode cX4_countLetters 17 = .ok (.iconst 0, 1) := by decide +kernel
theorem dX4_countLetters_18 : decode cX4_countLetters 18 = .ok (.istore_n 2, 1) := by decide +kernel
theorem dX4_countLetters_19 : decode cX4_countLetters 19 = .ok (.iload_n 2, 1) := by decide +kernel
theorem dX4_countLetters_20 : decode cX4_countLetters 20 = .ok (.aload_n 0, 1) := by decide +kernel
theorem dX4_countLetters_21 : decode cX4_countLetters 21 = .ok (.getfield 28, 3) := by decide +kernel
theorem dX4_countLetters_24 : decode cX4_countLetters 24 = .ok (.iload_n 1, 1) := by decide +kernel
theorem dX4_countLetters_25 : decode cX4_countLetters 25 = .ok (.iaload, 1) := by decide +kernel
theorem dX4_countLetters_26 : decode cX4_countLetters 26 = .ok (.if_icmp .ge 33, 3) := by decide +kernel
theorem dX4_countLetters_29 : decode cX4_countLetters 29 = .ok (.aload_n 0, 1) := by decide +kernel
theorem dX4_countLetters_30 : decode cX4_countLetters 30 = .ok (.getfield 40, 3) := by decide +kernel
theorem dX4_countLetters_33 : decode cX4_countLetters 33 = .ok (.aload_n 0, 1) := by decide +kernel
theorem dX4_countLetters_34 : decode cX4_countLetters 34 = .ok (.getfield 15, 3) := by decide +kernel
theorem dX4_countLetters_37 : decode cX4_countLetters 37 = .ok (.aload_n 0, 1) := by decide +kernel
theorem dX4_countLetters_38 : decode cX4_countLetters 38 = .ok (.getfield 25, 3) := by decide +kernel
theorem dX4_countLetters_41 : decode cX4_countLetters 41 = .ok (.iload_n 1, 1) := by decide +kernel
theorem dX4_countLetters_42 : decode cX4_countLetters 42 = .ok (.iaload, 1) := by decide +kernel
theorem dX4_countLetters_43 : decode cX4_countLetters 43 = .ok (.iload_n 2, 1) := by decide +kernel
theorem dX4_countLetters_44 : decode cX4_countLetters 44 = .ok (.iadd, 1) := by decide +kernel
theorem dX4_countLetters_45 : decode cX4_countLetters 45 = .ok (.iaload, 1) := by decide +kernel
theorem dX4_countLetters_46 : decode cX4_countLetters 46 = .ok (.iconst 1, 1) := by decide +kernel
theorem dX4_countLetters_47 : decode cX4_countLetters 47 = .ok (.iadd, 1) := by decide +kernel
theorem dX4_countLetters_48 : decode cX4_countLetters 48 = .ok (.dup2, 1) := by decide +kernel
theorem dX4_countLetters_49 : decode cX4_countLetters 49 = .ok (.iaload, 1) := by decide +kernel
theorem dX4_countLetters_50 : decode cX4_countLetters 50 = .ok (.iconst 1, 1) := by decide +kernel
theorem dX4_countLetters_51 : decode cX4_countLetters 51 = .ok (.iadd, 1) := by decide +kernel
theorem dX4_countLetters_52 : decode cX4_countLetters 52 = .ok (.iastore, 1) := by decide +kernel
theorem dX4_countLetters_53 : decode cX4_countLetters 53 = .ok (.iinc 2 1, 3) := by decide +kernel
theorem dX4_countLetters_56 : decode cX4_countLetters 56 = .ok (.goto (-37), 3) := by decide +kernel
theorem dX4_countLetters_59 : decode cX4_countLetters 59 = .ok (.iconst 0, 1) := by decide +kernel
theorem dX4_countLetters_60 : decode cX4_countLetters 60 = .ok (.istore_n 2, 1) := by decide +kernel
theorem dX4_countLetters_61 : decode cX4_countLetters 61 = .ok (.iload_n 2, 1) := by decide +kernel
theorem dX4_countLetters_62 : decode cX4_countLetters 62 = .ok (.aload_n 0, 1) := by decide +kernel
theorem dX4_countLetters_63 : decode cX4_countLetters 63 = .ok (.getfield 31, 3) := by decide +kernel
theorem dX4_countLetters_66 : decode cX4_countLetters 66 = .ok (.iload_n 1, 1) := by decide +kernel
theorem dX4_countLetters_67 : decode cX4_countLetters 67 = .ok (.iaload, 1) := by decide +kernel
theorem dX4_countLetters_68 : decode cX4_countLetters 68 = .ok (.if_icmp .ge 26, 3) := by decide +kernel
theorem dX4_countLetters_71 : decode cX4_countLetters 71 = .ok (.aload_n 0, 1) := by decide +kernel
theorem dX4_countLetters_72 : decode cX4_countLetters 72 = .ok (.getfield 40, 3) := by decide +kernel
theorem dX4_countLetters_75 : decode cX4_countLetters 75 = .ok (.iload_n 2, 1) := by decide +kernel
theorem dX4_countLetters_76 : decode cX4_countLetters 76 = .ok (.iconst 1, 1) := by decide +kernel
theorem dX4_countLetters_77 : decode cX4_countLetters 77 = .ok (.iadd, 1) := by decide +kernel
theorem dX4_countLetters_78 : decode cX4_countLetters 78 = .ok (.dup2, 1) := by decide +kernel
theorem dX4_countLetters_79 : decode cX4_countLetters 79 = .ok (.iaload, 1) := by decide +kernel
theorem dX4_countLetters_80 : decode cX4_countLetters 80 = .ok (.aload_n 0, 1) := by decide +kernel
theorem dX4_countLetters_81 : decode cX4_countLetters 81 = .ok (.getfield 40, 3) := by decide +kernel
theorem dX4_countLetters_84 : decode cX4_countLetters 84 = .ok (.iload_n 2, 1) := by decide +kernel
theorem dX4_countLetters_85 : decode cX4_countLetters 85 = .ok (.iaload, 1) := by decide +kernel
theorem dX4_countLetters_86 : decode cX4_countLetters 86 = .ok (.iadd, 1) := by decide +kernel
theorem dX4_countLetters_87 : decode cX4_countLetters 87 = .ok (.iastore, 1) := by decide +kernel
theorem dX4_countLetters_88 : decode cX4_countLetters 88 = .ok (.iinc 2 1, 3) := by decide +kernel
theorem dX4_countLetters_91 : decode cX4_countLetters 91 = .ok (.goto (-30), 3) := by decide +kernel
theorem dX4_countLetters_94 : decode cX4_countLetters 94 = .ok (.return_, 1) := by decide +kernel
theorem dX4_putSeeds_0 : decode cX4_putSeeds 0 = .ok (.aload_n 0, 1) := by decide +kernel
theorem dX4_putSeeds_1 : decode cX4_putSeeds 1 = .ok (.getfield 40, 3) := by decide +kernel
theorem dX4_putSeeds_4 : decode cX4_putSeeds 4 = .ok (.iconst 1, 1) := by decide +kernel
theorem dX4_putSeeds_5 : decode cX4_putSeeds 5 = .ok (.aload_n 0, 1) := by decide +kernel
theorem dX4_putSeeds_6 : decode cX4_putSeeds 6 = .ok (.getfield 43, 3) := by decide +kernel
theorem dX4_putSeeds_9 : decode cX4_putSeeds 9 = .ok (.iconst 0, 1) := by decide +kernel
theorem dX4_putSeeds_10 : decode cX4_putSeeds 10 = .ok (.aload_n 0, 1) := by decide +kernel
theorem dX4_putSeeds_11 : decode cX4_putSeeds 11 = .ok (.getfield 31, 3) := by decide +kernel
theorem dX4_putSeeds_14 : decode cX4_putSeeds 14 = .ok (.iload_n 1, 1) := by decide +kernel
theorem dX4_putSeeds_15 : decode cX4_putSeeds 15 = .ok (.iaload, 1) := by decide +kernel
theorem dX4_putSeeds_16 : decode cX4_putSeeds 16 = .ok (.invokestatic 46, 3) := by decide +kernel
theorem dX4_putSeeds_19 : decode cX4_putSeeds 19 = .ok (.iload_n 2, 1) := by decide +kernel
theorem dX4_putSeeds_20 : decode cX4_putSeeds 20 = .ok (.iconst 1, 1) := by decide +kernel
theorem dX4_putSeeds_21 : decode cX4_putSeeds 21 = .ok (.isub, 1) := by decide +kernel
theorem dX4_putSeeds_22 : decode cX4_putSeeds 22 = .ok (.istore_n 3, 1) := by decide +kernel
theorem dX4_putSeeds_23 : decode cX4_putSeeds 23 = .ok (.iload_n 3, 1) := by decide +kernel
theorem dX4_putSeeds_24 : decode cX4_putSeeds 24 = .ok (.ifCond .lt 20, 3) := by decide +kernel
theorem dX4_putSeeds_27 : decode cX4_putSeeds 27 = .ok (.aload_n 0, 1) := by decide +kernel
theorem dX4_putSeeds_28 : decode cX4_putSeeds 28 = .ok (.iload_n 1, 1) := by decide +kernel
theorem dX4_putSeeds_29 : decode cX4_putSeeds 29 = .ok (.aload_n 0, 1) := by decide +kernel
theorem dX4_putSeeds_30 : decode cX4_putSeeds 30 = .ok (.getfield 34, 3) := by decide +kernel
theorem dX4_putSeeds_33 : decode cX4_putSeeds 33 = .ok (.iload_n 3, 1) := by decide +kernel
theorem dX4_putSeeds_34 : decode cX4_putSeeds 34 = .ok (.iaload, 1) := by decide +kernel
theorem dX4_putSeeds_35 : decode cX4_putSeeds 35 = .ok (.invokevirtual 103, 3) := by decide +kernel
theorem dX4_putSeeds_38 : decode cX4_putSeeds 38 = .ok (.iinc 3 (-1), 3) := by decide +kernel
theorem dX4_putSeeds_41 : decode cX4_putSeeds 41 = .ok (.goto (-18), 3) := by decide +kernel
theorem dX4_putSeeds_44 : decode cX4_putSeeds 44 = .ok (.return_, 1) := by decide +kernel
theorem dX4_induceFalling_0 : decode cX4_induceFalling 0 = .ok (.aload_n 0, 1) := by decide +kernel
theorem dX4_induceFalling_1 : decode cX4_induceFalling 1 = .ok (.getfield 40, 3) := by decide +kernel
theorem dX4_induceFalling_4 : decode cX4_induceFalling 4 = .ok (.iconst 0, 1) := by decide +kernel
theorem dX4_induceFalling_5 : decode cX4_induceFalling 5 = .ok (.aload_n 0, 1) := by decide +kernel
theorem dX4_induceFalling_6 : decode cX4_induceFalling 6 = .ok (.getfield 43, 3) := by decide +kernel
theorem dX4_induceFalling_9 : decode cX4_induceFalling 9 = .ok (.iconst 0, 1) := by decide +kernel
theorem dX4_induceFalling_10 : decode cX4_induceFalling 10 = .ok (.aload_n 0, 1) := by decide +kernel
theorem dX4_induceFalling_11 : decode cX4_induceFalling 11 = .ok (.getfield 31, 3) := by decide +kernel
theorem dX4_induceFalling_14 : decode cX4_induceFalling 14 = .ok (.iload_n 1, 1) := by decide +kernel
theorem dX4_induceFalling_15 : decode cX4_induceFalling 15 = .ok (.iaload, 1) := by decide +kernel
theorem dX4_induceFalling_16 : decode cX4_induceFalling 16 = .ok (.invokestatic 46, 3) := by decide +kernel
theorem dX4_induceFalling_19 : decode cX4_induceFalling 19 = .ok (.aload_n 0, 1) := by decide +kernel
theorem dX4_induceFalling_20 : decode cX4_induceFalling 20 = .ok (.getfield 28, 3) := by decide +kernel
theorem dX4_induceFalling_23 : decode cX4_induceFalling 23 = .ok (.iload_n 1, 1) := by decide +kernel
theorem dX4_induceFalling_24 : decode cX4_induceFalling 24 = .ok (.iaload, 1) := by decide +kernel
theorem dX4_induceFalling_25 : decode cX4_induceFalling 25 = .ok (.ifCond .le 16, 3) := by decide +kernel
theorem dX4_induceFalling_28 : decode cX4_induceFalling 28 = .ok (.aload_n 0, 1) := by decide +kernel
theorem dX4_induceFalling_29 : decode cX4_induceFalling 29 = .ok (.iload_n 1, 1) := by decide +kernel
theorem dX4_induceFalling_30 : decode cX4_induceFalling 30 = .ok (.aload_n 0, 1) := by decide +kernel
theorem dX4_induceFalling_31 : decode cX4_induceFalling 31 = .ok (.getfield 28, 3) := by decide +kernel
theorem dX4_induceFalling_34 : decode cX4_induceFalling 34 = .ok (.iload_n 1, 1) := by decide +kernel
theorem dX4_induceFalling_35 : decode cX4_induceFalling 35 = .ok (.iaload, 1) := by decide +kernel
theorem dX4_induceFalling_36 : decode cX4_induceFalling 36 = .ok (.iconst 1, 1) := by decide +kernel
theorem dX4_induceFalling_37 : decode cX4_induceFalling 37 = .ok (.isub, 1) := by decide +kernel
theorem dX4_induceFalling_38 : decode cX4_induceFalling 38 = .ok (.invokevirtual 106, 3) := by decide +kernel
theorem dX4_induceFalling_41 : decode cX4_induceFalling 41 = .ok (.iconst 0, 1) := by decide +kernel
theorem dX4_induceFalling_42 : decode cX4_induceFalling 42 = .ok (.istore_n 2, 1) := by decide +kernel
theorem dX4_induceFalling_43 : decode cX4_induceFalling 43 = .ok (.iload_n 2, 1) := by decide +kernel
theorem dX4_induceFalling_44 : decode cX4_induceFalling 44 = .ok (.aload_n 0, 1) := by decide +kernel
theorem dX4_induceFalling_45 : decode cX4_induceFalling 45 = .ok (.getfield 28, 3) := by decide +kernel
theorem dX4_induceFalling_48 : decode cX4_induceFalling 48 = .ok (.iload_n 1, 1) := by decide +kernel
theorem dX4_induceFalling_49 : decode cX4_induceFalling 49 = .ok (.iaload, 1) := by decide +kernel
theorem dX4_induceFalling_50 : decode cX4_induceFalling 50 = .ok (.if_icmp .ge 44, 3) := by decide +kernel
theorem dX4_induceFalling_53 : decode cX4_induceFalling 53 = .ok (.aload_n 0, 1) := by decide +kernel
theorem dX4_induceFalling_54 : decode cX4_induceFalling 54 = .ok (.getfield 9, 3) := by decide +kernel
theorem dX4_induceFalling_57 : decode cX4_induceFalling 57 = .ok (.iload_n 2, 1) := by decide +kernel
theorem dX4_induceFalling_58 : decode cX4_induceFalling 58 = .ok (.iaload, 1) := by decide +kernel
theorem dX4_induceFalling_59 : decode cX4_induceFalling 59 = .ok (.iconst 1, 1) := by decide +kernel
theorem dX4_induceFalling_60 : decode cX4_induceFalling 60 = .ok (.isub, 1) := by decide +kernel
theorem dX4_induceFalling_61 : decode cX4_induceFalling 61 = .ok (.istore_n 3, 1) := by decide +kernel
theorem dX4_induceFalling_62 : decode cX4_induceFalling 62 = .ok (.iload_n 3, 1) := by decide +kernel
theorem dX4_induceFalling_63 : decode cX4_induceFalling 63 = .ok (.ifCond .lt 25, 3) := by decide +kernel
theorem dX4_induceFalling_66 : decode cX4_induceFalling 66 = .ok (.aload_n 0, 1) := by decide +kernel
theorem dX4_induceFalling_67 : decode cX4_induceFalling 67 = .ok (.getfield 18, 3) := by decide +kernel
theorem dX4_induceFalling_70 : decode cX4_induceFalling 70 = .ok (.aload_n 0, 1) := by decide +kernel
theorem dX4_induceFalling_71 : decode cX4_induceFalling 71 = .ok (.getfield 25, 3) := by decide +kernel
theorem dX4_induceFalling_74 : decode cX4_induceFalling 74 = .ok (.iload_n 1, 1) := by decide +kernel
theorem dX4_induceFalling_75 : decode cX4_induceFalling 75 = .ok (.iaload, 1) := by decide +kernel
theorem dX4_induceFalling_76 : decode cX4_induceFalling 76 = .ok (.iload_n 3, 1) := by decide +kernel
theorem dX4_induceFalling_77 : decode cX4_induceFalling 77 = .ok (.iadd, 1) := by decide +kernel
theorem dX4_induceFalling_78 : decode cX4_induceFalling 78 = .ok (.baload, 1) := by decide +kernel
theorem dX4_induceFalling_79 : decode cX4_induceFalling 79 = .ok (.ifCond .ne 9, 3) := by decide +kernel
theorem dX4_induceFalling_82 : decode cX4_induceFalling 82 = .ok (.aload_n 0, 1) := by decide +kernel
theorem dX4_induceFalling_83 : decode cX4_induceFalling 83 = .ok (.iload_n 1, 1) := by decide +kernel
theorem dX4_induceFalling_84 : decode cX4_induceFalling 84 = .ok (.iload_n 3, 1) := by decide +kernel
theorem dX4_induceFalling_85 : decode cX4_induceFalling 85 = .ok (.invokevirtual 106, 3) := by decide +kernel
theorem dX4_induceFalling_88 : decode cX4_induceFalling 88 = .ok (.iinc 2 1, 3) := by decide +kernel
theorem dX4_induceFalling_91 : decode cX4_induceFalling 91 = .ok (.goto (-48), 3) := by decide +kernel
theorem dX4_induceFalling_94 : decode cX4_induceFalling 94 = .ok (.return_, 1) := by decide +kernel
theorem dX4_induceRising_0 : decode cX4_induceRising 0 = .ok (.aload_n 0, 1) := by decide +kernel
theorem dX4_induceRising_1 : decode cX4_induceRising 1 = .ok (.getfield 40, 3) := by decide +kernel
theorem dX4_induceRising_4 : decode cX4_induceRising 4 = .ok (.iconst 1, 1) := by decide +kernel
theorem dX4_induceRising_5 : decode cX4_induceRising 5 = .ok (.aload_n 0, 1) := by decide +kernel
theorem dX4_induceRising_6 : decode cX4_induceRising 6 = .ok (.getfield 43, 3) := by decide +kernel
theorem dX4_induceRising_9 : decode cX4_induceRising 9 = .ok (.iconst 0, 1) := by decide +kernel
theorem dX4_induceRising_10 : decode cX4_induceRising 10 = .ok (.aload_n 0, 1) := by decide +kernel
theorem dX4_induceRising_11 : decode cX4_induceRising 11 = .ok (.getfield 31, 3) := by decide +kernel
theorem dX4_induceRising_14 : decode cX4_induceRising 14 = .ok (.iload_n 1, 1) := by decide +kernel
theorem dX4_induceRising_15 : decode cX4_induceRising 15 = .ok (.iaload, 1) := by decide +kernel
theorem dX4_induceRising_16 : decode cX4_induceRising 16 = .ok (.invokestatic 46, 3) := by decide +kernel
theorem dX4_induceRising_19 : decode cX4_induceRising 19 = .ok (.aload_n 0, 1) := by decide +kernel
theorem dX4_induceRising_20 : decode cX4_induceRising 20 = .ok (.getfield 28, 3) := by decide +kernel
theorem dX4_induceRising_23 : decode cX4_induceRising 23 = .ok (.iload_n 1, 1) := by decide +kernel
theorem dX4_induceRising_24 : decode cX4_induceRising 24 = .ok (.iaload, 1) := by decide +kernel
theorem dX4_induceRising_25 : decode cX4_induceRising 25 = .ok (.iconst 1, 1) := by decide +kernel
theorem dX4_induceRising_26 : decode cX4_induceRising 26 = .ok (.isub, 1) := by decide +kernel
theorem dX4_induceRising_27 : decode cX4_induceRising 27 = .ok (.istore_n 2, 1) := by decide +kernel
theorem dX4_induceRising_28 : decode cX4_induceRising 28 = .ok (.iload_n 2, 1) := by decide +kernel
theorem dX4_induceRising_29 : decode cX4_induceRising 29 = .ok (.ifCond .lt 44, 3) := by decide +kernel
theorem dX4_induceRising_32 : decode cX4_induceRising 32 = .ok (.aload_n 0, 1) := by decide +kernel
theorem dX4_induceRising_33 : decode cX4_induceRising 33 = .ok (.getfield 9, 3) := by decide +kernel
theorem dX4_induceRising_36 : decode cX4_induceRising 36 = .ok (.iload_n 2, 1) := by decide +kernel
theorem dX4_induceRising_37 : decode cX4_induceRising 37 = .ok (.iaload, 1) := by decide +kernel
theorem dX4_induceRising_38 : decode cX4_induceRising 38 = .ok (.iconst 1, 1) := by decide +kernel
theorem dX4_induceRising_39 : decode cX4_induceRising 39 = .ok (.isub, 1) := by decide +kernel
theorem dX4_induceRising_40 : decode cX4_induceRising 40 = .ok (.istore_n 3, 1) := by decide +kernel
theorem dX4_induceRising_41 : decode cX4_induceRising 41 = .ok (.iload_n 3, 1) := by decide +kernel
theorem dX4_induceRising_42 : decode cX4_induceRising 42 = .ok (.ifCond .lt 25, 3) := by decide +kernel
theorem dX4_induceRising_45 : decode cX4_induceRising 45 = .ok (.aload_n 0, 1) := by decide +kernel
theorem dX4_induceRising_46 : decode cX4_induceRising 46 = .ok (.getfield 18, 3) := by decide +kernel
theorem dX4_induceRising_49 : decode cX4_induceRising 49 = .ok (.aload_n 0, 1) := by decide +kernel
theorem dX4_induceRising_50 : decode cX4_induceRising 50 = .ok (.getfield 25, 3) := by decide +kernel
theorem dX4_induceRising_53 : decode cX4_induceRising 53 = .ok (.iload_n 1, 1) := by decide +kernel
theorem dX4_induceRising_54 : decode cX4_induceRising 54 = .ok (.iaload, 1) := by decide +kernel
theorem dX4_induceRising_55 : decode cX4_induceRising 55 = .ok (.iload_n 3, 1) := by decide +kernel
theorem dX4_induceRising_56 : decode cX4_induceRising 56 = .ok (.iadd, 1) := by decide +kernel
theorem dX4_induceRising_57 : decode cX4_induceRising 57 = .ok (.baload, 1) := by decide +kernel
theorem dX4_induceRising_58 : decode cX4_induceRising 58 = .ok (.ifCond .eq 9, 3) := by decide +kernel
theorem dX4_induceRising_61 : decode cX4_induceRising 61 = .ok (.aload_n 0, 1) := by decide +kernel
theorem dX4_induceRising_62 : decode cX4_induceRising 62 = .ok (.iload_n 1, 1) := by decide +kernel
theorem dX4_induceRising_63 : decode cX4_induceRising 63 = .ok (.iload_n 3, 1) := by decide +kernel
theorem dX4_induceRising_64 : decode cX4_induceRising 64 = .ok (.invokevirtual 103, 3) := by decide +kernel
theorem dX4_induceRising_67 : decode cX4_induceRising 67 = .ok (.iinc 2 (-1), 3) := by decide +kernel
theorem dX4_induceRising_70 : decode cX4_induceRising 70 = .ok (.goto (-42), 3) := by decide +kernel
theorem dX4_induceRising_73 : decode cX4_induceRising 73 = .ok (.return_, 1) := by decide +kernel
theorem dX4_putFirst_0 : decode cX4_putFirst 0 = .ok (.aload_n 0, 1) := by decide +kernel
theorem dX4_putFirst_1 : decode cX4_putFirst 1 = .ok (.getfield 15, 3) := by decide +kernel
theorem dX4_putFirst_4 : decode cX4_putFirst 4 = .ok (.aload_n 0, 1) := by decide +kernel
theorem dX4_putFirst_5 : decode cX4_putFirst 5 = .ok (.getfield 25, 3) := by decide +kernel
theorem dX4_putFirst_8 : decode cX4_putFirst 8 = .ok (.iload_n 1, 1) := by decide +kernel
theorem dX4_putFirst_9 : decode cX4_putFirst 9 = .ok (.iaload, 1) := by decide +kernel
theorem dX4_putFirst_10 : decode cX4_putFirst 10 = .ok (.iload_n 2, 1) := by decide +kernel
theorem dX4_putFirst_11 : decode cX4_putFirst 11 = .ok (.iadd, 1) := by decide +kernel
theorem dX4_putFirst_12 : decode cX4_putFirst 12 = .ok (.iaload, 1) := by decide +kernel
theorem dX4_putFirst_13 : decode cX4_putFirst 13 = .ok (.istore_n 3, 1) := by decide +kernel
theorem dX4_putFirst_14 : decode cX4_putFirst 14 = .ok (.aload_n 0, 1) := by decide +kernel
theorem dX4_putFirst_15 : decode cX4_putFirst 15 = .ok (.getfield 43, 3) := by decide +kernel
theorem dX4_putFirst_18 : decode cX4_putFirst 18 = .ok (.iload_n 3, 1) := by decide +kernel
theorem dX4_putFirst_19 : decode cX4_putFirst 19 = .ok (.iaload, 1) := by decide +kernel
theorem dX4_putFirst_20 : decode cX4_putFirst 20 = .ok (.istore 4, 2) := by decide +kernel
theorem dX4_putFirst_22 : decode cX4_putFirst 22 = .ok (.iload 4, 2) := by decide +kernel
theorem dX4_putFirst_24 : decode cX4_putFirst 24 = .ok (.aload_n 0, 1) := by decide +kernel
theorem dX4_putFirst_25 : decode cX4_putFirst 25 = .ok (.getfield 9, 3) := by decide +kernel
theorem dX4_putFirst_28 : decode cX4_putFirst 28 = .ok (.arraylength, 1) := by decide +kernel
theorem dX4_putFirst_29 : decode cX4_putFirst 29 = .ok (.if_icmp .ge 21, 3) := by decide +kernel
theorem dX4_putFirst_32 : decode cX4_putFirst 32 = .ok (.aload_n 0, 1) := by decide +kernel
theorem dX4_putFirst_33 : decode cX4_putFirst 33 = .ok (.getfield 9, 3) := by decide +kernel
theorem dX4_putFirst_36 : decode cX4_putFirst 36 = .ok (.iload 4, 2) := by decide +kernel
theorem dX4_putFirst_38 : decode cX4_putFirst 38 = .ok (.iload_n 2, 1) := by decide +kernel
theorem dX4_putFirst_39 : decode cX4_putFirst 39 = .ok (.iastore, 1) := by decide +kernel
theorem dX4_putFirst_40 : decode cX4_putFirst 40 = .ok (.aload_n 0, 1) := by decide +kernel
theorem dX4_putFirst_41 : decode cX4_putFirst 41 = .ok (.getfield 43, 3) := by decide +kernel
theorem dX4_putFirst_44 : decode cX4_putFirst 44 = .ok (.iload_n 3, 1) := by decide +kernel
theorem dX4_putFirst_45 : decode cX4_putFirst 45 = .ok (.iload 4, 2) := by decide +kernel
theorem dX4_putFirst_47 : decode cX4_putFirst 47 = .ok (.iconst 1, 1) := by decide +kernel
theorem dX4_putFirst_48 : decode cX4_putFirst 48 = .ok (.iadd, 1) := by decide +kernel
theorem dX4_putFirst_49 : decode cX4_putFirst 49 = .ok (.iastore, 1) := by decide +kernel
theorem dX4_putFirst_50 : decode cX4_putFirst 50 = .ok (.return_, 1) := by decide +kernel
theorem dX4_putLast_0 : decode cX4_putLast 0 = .ok (.aload_n 0, 1) := by decide +kernel
theorem dX4_putLast_1 : decode cX4_putLast 1 = .ok (.getfield 15, 3) := by decide +kernel
theorem dX4_putLast_4 : decode cX4_putLast 4 = .ok (.aload_n 0, 1) := by decide +kernel
theorem dX4_putLast_5 : decode cX4_putLast 5 = .ok (.getfield 25, 3) := by decide +kernel
theorem dX4_putLast_8 : decode cX4_putLast 8 = .ok (.iload_n 1, 1) := by decide +kernel
theorem dX4_putLast_9 : decode cX4_putLast 9 = .ok (.iaload, 1) := by decide +kernel
theorem dX4_putLast_10 : decode cX4_putLast 10 = .ok (.iload_n 2, 1) := by decide +kernel
theorem dX4_putLast_11 : decode cX4_putLast 11 = .ok (.iadd, 1) := by decide +kernel
theorem dX4_putLast_12 : decode cX4_putLast 12 = .ok (.iaload, 1) := by decide +kernel
theorem dX4_putLast_13 : decode cX4_putLast 13 = .ok (.istore_n 3, 1) := by decide +kernel
theorem dX4_putLast_14 : decode cX4_putLast 14 = .ok (.aload_n 0, 1) := by decide +kernel
theorem dX4_putLast_15 : decode cX4_putLast 15 = .ok (.getfield 43, 3) := by decide +kernel
theorem dX4_putLast_18 : decode cX4_putLast 18 = .ok (.iload_n 3, 1) := by decide +kernel
theorem dX4_putLast_19 : decode cX4_putLast 19 = .ok (.iaload, 1) := by decide +kernel
theorem dX4_putLast_20 : decode cX4_putLast 20 = .ok (.iconst 1, 1) := by decide +kernel
theorem dX4_putLast_21 : decode cX4_putLast 21 = .ok (.isub, 1) := by decide +kernel
theorem dX4_putLast_22 : decode cX4_putLast 22 = .ok (.istore 4, 2) := by decide +kernel
theorem dX4_putLast_24 : decode cX4_putLast 24 = .ok (.iload 4, 2) := by decide +kernel
theorem dX4_putLast_26 : decode cX4_putLast 26 = .ok (.ifCond .lt 19, 3) := by decide +kernel
theorem dX4_putLast_29 : decode cX4_putLast 29 = .ok (.aload_n 0, 1) := by decide +kernel
theorem dX4_putLast_30 : decode cX4_putLast 30 = .ok (.getfield 9, 3) := by decide +kernel
theorem dX4_putLast_33 : decode cX4_putLast 33 = .ok (.iload 4, 2) := by decide +kernel
theorem dX4_putLast_35 : decode cX4_putLast 35 = .ok (.iload_n 2, 1) := by decide +kernel
theorem dX4_putLast_36 : decode cX4_putLast 36 = .ok (.iastore, 1) := by decide +kernel
theorem dX4_putLast_37 : decode cX4_putLast 37 = .ok (.aload_n 0, 1) := by decide +kernel
theorem dX4_putLast_38 : decode cX4_putLast 38 = .ok (.getfield 43, 3) := by decide +kernel
theorem dX4_putLast_41 : decode cX4_putLast 41 = .ok (.iload_n 3, 1) := by decide +kernel
theorem dX4_putLast_42 : decode cX4_putLast 42 = .ok (.iload 4, 2) := by decide +kernel
theorem dX4_putLast_44 : decode cX4_putLast 44 = .ok (.iastore, 1) := by decide +kernel
theorem dX4_putLast_45 : decode cX4_putLast 45 = .ok (.return_, 1) := by decide +kernel
theorem dX8_init_0 : decode cX8_init 0 = .ok (.aload_n 0, 1) := by decide +kernel
theorem dX8_init_1 : decode cX8_init 1 = .ok (.invokespecial 3, 3) := by decide +kernel
theorem dX8_init_4 : decode cX8_init 4 = .ok (.aload_n 0, 1) := by decide +kernel
theorem dX8_init_5 : decode cX8_init 5 = .ok (.new 9, 3) := by decide +kernel
theorem dX8_init_8 : decode cX8_init 8 = .ok (.dup, 1) := by decide +kernel
theorem dX8_init_9 : decode cX8_init 9 = .ok (.invokespecial 11, 3) := by decide +kernel
theorem dX8_init_12 : decode cX8_init 12 = .ok (.putfield 12, 3) := by decide +kernel
theorem dX8_init_15 : decode cX8_init 15 = .ok (.aload_n 0, 1) := by decide +kernel
theorem dX8_init_16 : decode cX8_init 16 = .ok (.new 16, 3) := by decide +kernel
theorem dX8_init_19 : decode cX8_init 19 = .ok (.dup, 1) := by decide +kernel
theorem dX8_init_20 : decode cX8_init 20 = .ok (.invokespecial 18, 3) := by decide +kernel
theorem dX8_init_23 : decode cX8_init 23 = .ok (.putfield 19, 3) := by decide +kernel
theorem dX8_init_26 : decode cX8_init 26 = .ok (.aload_n 0, 1) := by decide +kernel
theorem dX8_init_27 : decode cX8_init 27 = .ok (.new 23, 3) := by decide +kernel
theorem dX8_init_30 : decode cX8_init 30 = .ok (.dup, 1) := by decide +kernel
theorem dX8_init_31 : decode cX8_init 31 = .ok (.aload_n 0, 1) := by decide +kernel
theorem dX8_init_32 : decode cX8_init 32 = .ok (.getfield 19, 3) := by decide +kernel
theorem dX8_init_35 : decode cX8_init 35 = .ok (.invokespecial 25, 3) := by decide +kernel
theorem dX8_init_38 : decode cX8_init 38 = .ok (.putfield 28, 3) := by decide +kernel
theorem dX8_init_41 : decode cX8_init 41 = .ok (.aload_n 0, 1) := by decide +kernel
theorem dX8_init_42 : decode cX8_init 42 = .ok (.new 32, 3) := by decide +kernel
theorem dX8_init_45 : decode cX8_init 45 = .ok (.dup, 1) := by decide +kernel
theorem dX8_init_46 : decode cX8_init 46 = .ok (.aload_n 0, 1) := by decide +kernel
theorem dX8_init_47 : decode cX8_init 47 = .ok (.getfield 19, 3) := by decide +kernel
theorem dX8_init_50 : decode cX8_init 50 = .ok (.aload_n 0, 1) := by decide +kernel
theorem dX8_init_51 : decode cX8_init 51 = .ok (.getfield 28, 3) := by decide +kernel
theorem dX8_init_54 : decode cX8_init 54 = .ok (.invokespecial 34, 3) := by decide +kernel
theorem dX8_init_57 : decode cX8_init 57 = .ok (.putfield 37, 3) := by decide +kernel
theorem dX8_init_60 : decode cX8_init 60 = .ok (.aload_n 0, 1) := by decide +kernel
theorem dX8_init_61 : decode cX8_init 61 = .ok (.new 41, 3) := by decide +kernel
theorem dX8_init_64 : decode cX8_init 64 = .ok (.dup, 1) := by decide +kernel
theorem dX8_init_65 : decode cX8_init 65 = .ok (.aload_n 0, 1) := by decide +kernel
theorem dX8_init_66 : decode cX8_init 66 = .ok (.getfield 19, 3) := by decide +kernel
theorem dX8_init_69 : decode cX8_init 69 = .ok (.aload_n 0, 1) := by decide +kernel
theorem dX8_init_70 : decode cX8_init 70 = .ok (.getfield 28, 3) := by decide +kernel
theorem dX8_init_73 : decode cX8_init 73 = .ok (.invokespecial 43, 3) := by decide +kernel
theorem dX8_init_76 : decode cX8_init 76 = .ok (.putfield 44, 3) := by decide +kernel
theorem dX8_init_79 : decode cX8_init 79 = .ok (.aload_n 0, 1) := by decide +kernel
theorem dX8_init_80 : decode cX8_init 80 = .ok (.new 48, 3) := by decide +kernel
theorem dX8_init_83 : decode cX8_init 83 = .ok (.dup, 1) := by decide +kernel
theorem dX8_init_84 : decode cX8_init 84 = .ok (.aload_n 0, 1) := by decide +kernel
theorem dX8_init_85 : decode cX8_init 85 = .ok (.getfield 19, 3) := by decide +kernel
theorem dX8_init_88 : decode cX8_init 88 = .ok (.aload_n 0, 1) := by decide +kernel
theorem dX8_init_89 : decode cX8_init 89 = .ok (.getfield 28, 3) := by decide +kernel
theorem dX8_init_92 : decode cX8_init 92 = .ok (.invokespecial 50, 3) := by decide +kernel
theorem dX8_init_95 : decode cX8_init 95 = .ok (.putfield 51, 3) := by decide +kernel
theorem dX8_init_98 : decode cX8_init 98 = .ok (.aload_n 0, 1) := by decide +kernel
theorem dX8_init_99 : decode cX8_init 99 = .ok (.new 55, 3) := by decide +kernel
theorem dX8_init_102 : decode cX8_init 102 = .ok (.dup, 1) := by decide +kernel
theorem dX8_init_103 : decode cX8_init 103 = .ok (.aload_n 0, 1) := by decide +kernel
theorem dX8_init_104 : decode cX8_init 104 = .ok (.getfield 19, 3) := by decide +kernel
theorem dX8_init_107 : decode cX8_init 107 = .ok (.aload_n 0, 1) := by decide +kernel
theorem dX8_init_108 : decode cX8_init 108 = .ok (.getfield 28, 3) := by decide +kernel
theorem dX8_init_111 : decode cX8_init 111 = .ok (.invokespecial 57, 3) := by decide +kernel
theorem dX8_init_114 : decode cX8_init 114 = .ok (.putfield 58, 3) := by decide +kernel
theorem dX8_init_117 : decode cX8_init 117 = .ok (.return_, 1) := by decide +kernel
theorem dX8_add_0 : decode cX8_add 0 = .ok (.iload_n 2, 1) := by decide +kernel
theorem dX8_add_1 : decode cX8_add 1 = .ok (.iload_n 3, 1) := by decide +kernel
theorem dX8_add_2 : decode cX8_add 2 = .ok (.iload 4, 2) := by decide +kernel
theorem dX8_add_4 : decode cX8_add 4 = .ok (.iload 5, 2) := by decide +kernel
theorem dX8_add_6 : decode cX8_add 6 = .ok (.invokestatic 62, 3) := by decide +kernel
theorem dX8_add_9 : decode cX8_add 9 = .ok (.istore 6, 2) := by decide +kernel
theorem dX8_add_11 : decode cX8_add 11 = .ok (.iload_n 1, 1) := by decide +kernel
theorem dX8_add_12 : decode cX8_add 12 = .ok (.invokestatic 66, 3) := by decide +kernel
theorem dX8_add_15 : decode cX8_add 15 = .ok (.ifCond .eq 25, 3) := by decide +kernel
theorem dX8_add_18 : decode cX8_add 18 = .ok (.iload 6, 2) := by decide +kernel
theorem dX8_add_20 : decode cX8_add 20 = .ok (.iconst (-1), 1) := by decide +kernel
theorem dX8_add_21 : decode cX8_add 21 = .ok (.if_icmp .eq 19, 3) := by decide +kernel
theorem dX8_add_24 : decode cX8_add 24 = .ok (.aload_n 0, 1) := by decide +kernel
theorem dX8_add_25 : decode cX8_add 25 = .ok (.getfield 12, 3) := by decide +kernel
theorem dX8_add_28 : decode cX8_add 28 = .ok (.getfield 70, 3) := by decide +kernel
theorem dX8_add_31 : decode cX8_add 31 = .ok (.iload 6, 2) := by decide +kernel
theorem dX8_add_33 : decode cX8_add 33 = .ok (.iadd, 1) := by decide +kernel
theorem dX8_add_34 : decode cX8_add 34 = .ok (.sipush 400, 3) := by decide +kernel
theorem dX8_add_37 : decode cX8_add 37 = .ok (.if_icmp .le 5, 3) := by decide +kernel
theorem dX8_add_40 : decode cX8_add 40 = .ok (.iconst (-1), 1) := by decide +kernel
theorem dX8_add_41 : decode cX8_add 41 = .ok (.ireturn, 1) := by decide +kernel
theorem dX8_add_42 : decode cX8_add 42 = .ok (.aload_n 0, 1) := by decide +kernel
theorem dX8_add_43 : decode cX8_add 43 = .ok (.getfield 12, 3) := by decide +kernel
theorem dX8_add_46 : decode cX8_add 46 = .ok (.iload_n 1, 1) := by decide +kernel
theorem dX8_add_47 : decode cX8_add 47 = .ok (.iload_n 2, 1) := by decide +kernel
theorem dX8_add_48 : decode cX8_add 48 = .ok (.invokevirtual 74, 3) := by decide +kernel
theorem dX8_add_51 : decode cX8_add 51 = .ok (.aload_n 0, 1) := by decide +kernel
theorem dX8_add_52 : decode cX8_add 52 = .ok (.getfield 12, 3) := by decide +kernel
theorem dX8_add_55 : decode cX8_add 55 = .ok (.iload_n 1, 1) := by decide +kernel
theorem dX8_add_56 : decode cX8_add 56 = .ok (.iload_n 3, 1) := by decide +kernel
theorem dX8_add_57 : decode cX8_add 57 = .ok (.invokevirtual 74, 3) := by decide +kernel
theorem dX8_add_60 : decode cX8_add 60 = .ok (.aload_n 0, 1) := by decide +kernel
theorem dX8_add_61 : decode cX8_add 61 = .ok (.getfield 12, 3) := by decide +kernel
theorem dX8_add_64 : decode cX8_add 64 = .ok (.iload_n 1, 1) := by decide +kernel
theorem dX8_add_65 : decode cX8_add 65 = .ok (.iload 4, 2) := by decide +kernel
theorem dX8_add_67 : decode cX8_add 67 = .ok (.invokevirtual 74, 3) := by decide +kernel
theorem dX8_add_70 : decode cX8_add 70 = .ok (.aload_n 0, 1) := by decide +kernel
theorem dX8_add_71 : decode cX8_add 71 = .ok (.getfield 12, 3) := by decide +kernel
theorem dX8_add_74 : decode cX8_add 74 = .ok (.iload_n 1, 1) := by decide +kernel
theorem dX8_add_75 : decode cX8_add 75 = .ok (.iload 5, 2) := by decide +kernel
theorem dX8_add_77 : decode cX8_add 77 = .ok (.invokevirtual 74, 3) := by decide +kernel
theorem dX8_add_80 : decode cX8_add 80 = .ok (.aload_n 0, 1) := by decide +kernel
theorem dX8_add_81 : decode cX8_add 81 = .ok (.getfield 12, 3) := by decide +kernel
theorem dX8_add_84 : decode cX8_add 84 = .ok (.getfield 78, 3) := by decide +kernel
theorem dX8_add_87 : decode cX8_add 87 = .ok (.iload_n 1, 1) := by decide +kernel
theorem dX8_add_88 : decode cX8_add 88 = .ok (.iaload, 1) := by decide +kernel
theorem dX8_add_89 : decode cX8_add 89 = .ok (.ireturn, 1) := by decide +kernel
theorem dX8_cut_0 : decode cX8_cut 0 = .ok (.iload_n 1, 1) := by decide +kernel
theorem dX8_cut_1 : decode cX8_cut 1 = .ok (.invokestatic 66, 3) := by decide +kernel
theorem dX8_cut_4 : decode cX8_cut 4 = .ok (.ifCond .eq 20, 3) := by decide +kernel
theorem dX8_cut_7 : decode cX8_cut 7 = .ok (.iload_n 2, 1) := by decide +kernel
theorem dX8_cut_8 : decode cX8_cut 8 = .ok (.ifCond .lt 16, 3) := by decide +kernel
theorem dX8_cut_11 : decode cX8_cut 11 = .ok (.iload_n 2, 1) := by decide +kernel
theorem dX8_cut_12 : decode cX8_cut 12 = .ok (.aload_n 0, 1) := by decide +kernel
theorem dX8_cut_13 : decode cX8_cut 13 = .ok (.getfield 12, 3) := by decide +kernel
theorem dX8_cut_16 : decode cX8_cut 16 = .ok (.getfield 78, 3) := by decide +kernel
theorem dX8_cut_19 : decode cX8_cut 19 = .ok (.iload_n 1, 1) := by decide +kernel
theorem dX8_cut_20 : decode cX8_cut 20 = .ok (.iaload, 1) := by decide +kernel
theorem dX8_cut_21 : decode cX8_cut 21 = .ok (.if_icmp .le 5, 3) := by decide +kernel
theorem dX8_cut_24 : decode cX8_cut 24 = .ok (.iconst (-1), 1) := by decide +kernel
theorem dX8_cut_25 : decode cX8_cut 25 = .ok (.ireturn, 1) := by decide +kernel
theorem dX8_cut_26 : decode cX8_cut 26 = .ok (.aload_n 0, 1) := by decide +kernel
theorem dX8_cut_27 : decode cX8_cut 27 = .ok (.getfield 12, 3) := by decide +kernel
theorem dX8_cut_30 : decode cX8_cut 30 = .ok (.iload_n 1, 1) := by decide +kernel
theorem dX8_cut_31 : decode cX8_cut 31 = .ok (.iload_n 2, 1) := by decide +kernel
theorem dX8_cut_32 : decode cX8_cut 32 = .ok (.invokevirtual 82, 3) := by decide +kernel
theorem dX8_cut_35 : decode cX8_cut 35 = .ok (.aload_n 0, 1) := by decide +kernel
theorem dX8_cut_36 : decode cX8_cut 36 = .ok (.getfield 12, 3) := by decide +kernel
theorem dX8_cut_39 : decode cX8_cut 39 = .ok (.getfield 78, 3) := by decide +kernel
theorem dX8_cut_42 : decode cX8_cut 42 = .ok (.iload_n 1, 1) := by decide +kernel
theorem dX8_cut_43 : decode cX8_cut 43 = .ok (.iaload, 1) := by decide +kernel
theorem dX8_cut_44 : decode cX8_cut 44 = .ok (.ireturn, 1) := by decide +kernel
theorem dX8_build_0 : decode cX8_build 0 = .ok (.aload_n 0, 1) := by decide +kernel
theorem dX8_build_1 : decode cX8_build 1 = .ok (.getfield 19, 3) := by decide +kernel
theorem dX8_build_4 : decode cX8_build 4 = .ok (.aload_n 0, 1) := by decide +kernel
theorem dX8_build_5 : decode cX8_build 5 = .ok (.getfield 12, 3) := by decide +kernel
theorem dX8_build_8 : decode cX8_build 8 = .ok (.invokevirtual 85, 3) := by decide +kernel
theorem dX8_build_11 : decode cX8_build 11 = .ok (.aload_n 0, 1) := by decide +kernel
theorem dX8_build_12 : decode cX8_build 12 = .ok (.getfield 28, 3) := by decide +kernel
theorem dX8_build_15 : decode cX8_build 15 = .ok (.invokevirtual 89, 3) := by decide +kernel
theorem dX8_build_18 : decode cX8_build 18 = .ok (.aload_n 0, 1) := by decide +kernel
theorem dX8_build_19 : decode cX8_build 19 = .ok (.getfield 37, 3) := by decide +kernel
theorem dX8_build_22 : decode cX8_build 22 = .ok (.invokevirtual 92, 3) := by decide +kernel
theorem dX8_build_25 : decode cX8_build 25 = .ok (.aload_n 0, 1) := by decide +kernel
theorem dX8_build_26 : decode cX8_build 26 = .ok (.getfield 58, 3) := by decide +kernel
theorem dX8_build_29 : decode cX8_build 29 = .ok (.invokevirtual 93, 3) := by decide +kernel
theorem dX8_build_32 : decode cX8_build 32 = .ok (.aload_n 0, 1) := by decide +kernel
theorem dX8_build_33 : decode cX8_build 33 = .ok (.getfield 19, 3) := by decide +kernel
theorem dX8_build_36 : decode cX8_build 36 = .ok (.getfield 96, 3) := by decide +kernel
theorem dX8_build_39 : decode cX8_build 39 = .ok (.ireturn, 1) := by decide +kernel
theorem dX8_sign_0 : decode cX8_sign 0 = .ok (.aload_n 0, 1) := by decide +kernel
theorem dX8_sign_1 : decode cX8_sign 1 = .ok (.getfield 19, 3) := by decide +kernel
theorem dX8_sign_4 : decode cX8_sign 4 = .ok (.iload_n 1, 1) := by decide +kernel
theorem dX8_sign_5 : decode cX8_sign 5 = .ok (.invokevirtual 99, 3) := by decide +kernel
theorem dX8_sign_8 : decode cX8_sign 8 = .ok (.ifCond .eq 14, 3) := by decide +kernel
theorem dX8_sign_11 : decode cX8_sign 11 = .ok (.aload_n 0, 1) := by decide +kernel
theorem dX8_sign_12 : decode cX8_sign 12 = .ok (.getfield 19, 3) := by decide +kernel
theorem dX8_sign_15 : decode cX8_sign 15 = .ok (.iload_n 1, 1) := by decide +kernel
theorem dX8_sign_16 : decode cX8_sign 16 = .ok (.invokevirtual 102, 3) := by decide +kernel
theorem dX8_sign_19 : decode cX8_sign 19 = .ok (.goto 4, 3) := by decide +kernel
theorem dX8_sign_22 : decode cX8_sign 22 = .ok (.iconst (-1), 1) := by decide +kernel
theorem dX8_sign_23 : decode cX8_sign 23 = .ok (.ireturn, 1) := by decide +kernel
theorem dX8_text_0 : decode cX8_text 0 = .ok (.aload_n 0, 1) := by decide +kernel
theorem dX8_text_1 : decode cX8_text 1 = .ok (.getfield 19, 3) := by decide +kernel
theorem dX8_text_4 : decode cX8_text 4 = .ok (.iload_n 1, 1) := by decide +kernel
theorem dX8_text_5 : decode cX8_text 5 = .ok (.invokevirtual 99, 3) := by decide +kernel
theorem dX8_text_8 : decode cX8_text 8 = .ok (.ifCond .eq 12, 3) := by decide +kernel
theorem dX8_text_11 : decode cX8_text 11 = .ok (.iload_n 2, 1) := by decide +kernel
theorem dX8_text_12 : decode cX8_text 12 = .ok (.ifCond .lt 8, 3) := by decide +kernel
theorem dX8_text_15 : decode cX8_text 15 = .ok (.iload_n 2, 1) := by decide +kernel
theorem dX8_text_16 : decode cX8_text 16 = .ok (.iconst 1, 1) := by decide +kernel
theorem dX8_text_17 : decode cX8_text 17 = .ok (.if_icmp .le 5, 3) := by decide +kernel
theorem dX8_text_20 : decode cX8_text 20 = .ok (.iconst (-1), 1) := by decide +kernel
theorem dX8_text_21 : decode cX8_text 21 = .ok (.ireturn, 1) := by decide +kernel
theorem dX8_text_22 : decode cX8_text 22 = .ok (.aload_n 0, 1) := by decide +kernel
theorem dX8_text_23 : decode cX8_text 23 = .ok (.getfield 19, 3) := by decide +kernel
theorem dX8_text_26 : decode cX8_text 26 = .ok (.getfield 106, 3) := by decide +kernel
theorem dX8_text_29 : decode cX8_text 29 = .ok (.iload_n 1, 1) := by decide +kernel
theorem dX8_text_30 : decode cX8_text 30 = .ok (.iaload, 1) := by decide +kernel
theorem dX8_text_31 : decode cX8_text 31 = .ok (.istore_n 3, 1) := by decide +kernel
theorem dX8_text_32 : decode cX8_text 32 = .ok (.iload_n 2, 1) := by decide +kernel
theorem dX8_text_33 : decode cX8_text 33 = .ok (.ifCond .ne 7, 3) := by decide +kernel
theorem dX8_text_36 : decode cX8_text 36 = .ok (.iload_n 3, 1) := by decide +kernel
theorem dX8_text_37 : decode cX8_text 37 = .ok (.goto 14, 3) := by decide +kernel
theorem dX8_text_40 : decode cX8_text 40 = .ok (.iload_n 1, 1) := by decide +kernel
theorem dX8_text_41 : decode cX8_text 41 = .ok (.aload_n 0, 1) := by decide +kernel
theorem dX8_text_42 : decode cX8_text 42 = .ok (.getfield 19, 3) := by decide +kernel
theorem dX8_text_45 : decode cX8_text 45 = .ok (.getfield 109, 3) := by decide +kernel
theorem dX8_text_48 : decode cX8_text 48 = .ok (.iload_n 3, 1) := by decide +kernel
theorem dX8_text_49 : decode cX8_text 49 = .ok (.iaload, 1) := by decide +kernel
theorem dX8_text_50 : decode cX8_text 50 = .ok (.isub, 1) := by decide +kernel
theorem dX8_text_51 : decode cX8_text 51 = .ok (.ireturn, 1) := by decide +kernel
theorem dX8_at_0 : decode cX8_at 0 = .ok (.aload_n 0, 1) := by decide +kernel
theorem dX8_at_1 : decode cX8_at 1 = .ok (.getfield 19, 3) := by decide +kernel
theorem dX8_at_4 : decode cX8_at 4 = .ok (.iload_n 1, 1) := by decide +kernel
theorem dX8_at_5 : decode cX8_at 5 = .ok (.invokevirtual 99, 3) := by decide +kernel
theorem dX8_at_8 : decode cX8_at 8 = .ok (.ifCond .eq 15, 3) := by decide +kernel
theorem dX8_at_11 : decode cX8_at 11 = .ok (.aload_n 0, 1) := by decide +kernel
theorem dX8_at_12 : decode cX8_at 12 = .ok (.getfield 28, 3) := by decide +kernel
theorem dX8_at_15 : decode cX8_at 15 = .ok (.getfield 112, 3) := by decide +kernel
theorem dX8_at_18 : decode cX8_at 18 = .ok (.iload_n 1, 1) := by decide +kernel
theorem dX8_at_19 : decode cX8_at 19 = .ok (.iaload, 1) := by decide +kernel
theorem dX8_at_20 : decode cX8_at 20 = .ok (.goto 4, 3) := by decide +kernel
theorem dX8_at_23 : decode cX8_at 23 = .ok (.iconst (-1), 1) := by decide +kernel
theorem dX8_at_24 : decode cX8_at 24 = .ok (.ireturn, 1) := by decide +kernel
theorem dX8_rank_0 : decode cX8_rank 0 = .ok (.aload_n 0, 1) := by decide +kernel
theorem dX8_rank_1 : decode cX8_rank 1 = .ok (.getfield 19, 3) := by decide +kernel
theorem dX8_rank_4 : decode cX8_rank 4 = .ok (.iload_n 1, 1) := by decide +kernel
theorem dX8_rank_5 : decode cX8_rank 5 = .ok (.invokevirtual 99, 3) := by decide +kernel
theorem dX8_rank_8 : decode cX8_rank 8 = .ok (.ifCond .eq 15, 3) := by decide +kernel
theorem dX8_rank_11 : decode cX8_rank 11 = .ok (.aload_n 0, 1) := by decide +kernel
theorem dX8_rank_12 : decode cX8_rank 12 = .ok (.getfield 28, 3) := by decide +kernel
theorem dX8_rank_15 : decode cX8_rank 15 = .ok (.getfield 115, 3) := by decide +kernel
theorem dX8_rank_18 : decode cX8_rank 18 = .ok (.iload_n 1, 1) := by decide +kernel
theorem dX8_rank_19 : decode cX8_rank 19 = .ok (.iaload, 1) := by decide +kernel
theorem dX8_rank_20 : decode cX8_rank 20 = .ok (.goto 4, 3) := by decide +kernel
theorem dX8_rank_23 : decode cX8_rank 23 = .ok (.iconst (-1), 1) := by decide +kernel
theorem dX8_rank_24 : decode cX8_rank 24 = .ok (.ireturn, 1) := by decide +kernel
theorem dX8_beside_0 : decode cX8_beside 0 = .ok (.aload_n 0, 1) := by decide +kernel
theorem dX8_beside_1 : decode cX8_beside 1 = .ok (.getfield 19, 3) := by decide +kernel
theorem dX8_beside_4 : decode cX8_beside 4 = .ok (.iload_n 1, 1) := by decide +kernel
theorem dX8_beside_5 : decode cX8_beside 5 = .ok (.invokevirtual 99, 3) := by decide +kernel
theorem dX8_beside_8 : decode cX8_beside 8 = .ok (.ifCond .eq 15, 3) := by decide +kernel
theorem dX8_beside_11 : decode cX8_beside 11 = .ok (.aload_n 0, 1) := by decide +kernel
theorem dX8_beside_12 : decode cX8_beside 12 = .ok (.getfield 28, 3) := by decide +kernel
theorem dX8_beside_15 : decode cX8_beside 15 = .ok (.getfield 118, 3) := by decide +kernel
theorem dX8_beside_18 : decode cX8_beside 18 = .ok (.iload_n 1, 1) := by decide +kernel
theorem dX8_beside_19 : decode cX8_beside 19 = .ok (.iaload, 1) := by decide +kernel
theorem dX8_beside_20 : decode cX8_beside 20 = .ok (.goto 4, 3) := by decide +kernel
theorem dX8_beside_23 : decode cX8_beside 23 = .ok (.iconst (-1), 1) := by decide +kernel
theorem dX8_beside_24 : decode cX8_beside 24 = .ok (.ireturn, 1) := by decide +kernel
theorem dX8_common_0 : decode cX8_common 0 = .ok (.aload_n 0, 1) := by decide +kernel
theorem dX8_common_1 : decode cX8_common 1 = .ok (.getfield 19, 3) := by decide +kernel
theorem dX8_common_4 : decode cX8_common 4 = .ok (.iload_n 1, 1) := by decide +kernel
theorem dX8_common_5 : decode cX8_common 5 = .ok (.invokevirtual 99, 3) := by decide +kernel
theorem dX8_common_8 : decode cX8_common 8 = .ok (.ifCond .eq 14, 3) := by decide +kernel
theorem dX8_common_11 : decode cX8_common 11 = .ok (.aload_n 0, 1) := by decide +kernel
theorem dX8_common_12 : decode cX8_common 12 = .ok (.getfield 19, 3) := by decide +kernel
theorem dX8_common_15 : decode cX8_common 15 = .ok (.iload_n 2, 1) := by decide +kernel
theorem dX8_common_16 : decode cX8_common 16 = .ok (.invokevirtual 99, 3) := by decide +kernel
theorem dX8_common_19 : decode cX8_common 19 = .ok (.ifCond .ne 5, 3) := by decide +kernel
theorem dX8_common_22 : decode cX8_common 22 = .ok (.iconst (-1), 1) := by decide +kernel
theorem dX8_common_23 : decode cX8_common 23 = .ok (.ireturn, 1) := by decide +kernel
theorem dX8_common_24 : decode cX8_common 24 = .ok (.iload_n 1, 1) := by decide +kernel
theorem dX8_common_25 : decode cX8_common 25 = .ok (.iload_n 2, 1) := by decide +kernel
theorem dX8_common_26 : decode cX8_common 26 = .ok (.if_icmp .ne 14, 3) := by decide +kernel
theorem dX8_common_29 : decode cX8_common 29 = .ok (.aload_n 0, 1) := by decide +kernel
theorem dX8_common_30 : decode cX8_common 30 = .ok (.getfield 19, 3) := by decide +kernel
theorem dX8_common_33 : decode cX8_common 33 = .ok (.iload_n 1, 1) := by decide +kernel
theorem dX8_common_34 : decode cX8_common 34 = .ok (.invokevirtual 121, 3) := by decide +kernel
theorem dX8_common_37 : decode cX8_common 37 = .ok (.goto 13, 3) := by decide +kernel
theorem dX8_common_40 : decode cX8_common 40 = .ok (.aload_n 0, 1) := by decide +kernel
theorem dX8_common_41 : decode cX8_common 41 = .ok (.getfield 19, 3) := by decide +kernel
theorem dX8_common_44 : decode cX8_common 44 = .ok (.iload_n 1, 1) := by decide +kernel
theorem dX8_common_45 : decode cX8_common 45 = .ok (.iload_n 2, 1) := by decide +kernel
theorem dX8_common_46 : decode cX8_common 46 = .ok (.iconst 0, 1) := by decide +kernel
theorem dX8_common_47 : decode cX8_common 47 = .ok (.invokevirtual 124, 3) := by decide +kernel
theorem dX8_common_50 : decode cX8_common 50 = .ok (.ireturn, 1) := by decide +kernel
theorem dX8_copy_0 : decode cX8_copy 0 = .ok (.aload_n 0, 1) := by decide +kernel
theorem dX8_copy_1 : decode cX8_copy 1 = .ok (.getfield 19, 3) := by decide +kernel
theorem dX8_copy_4 : decode cX8_copy 4 = .ok (.iload_n 1, 1) := by decide +kernel
theorem dX8_copy_5 : decode cX8_copy 5 = .ok (.invokevirtual 99, 3) := by decide +kernel
theorem dX8_copy_8 : decode cX8_copy 8 = .ok (.ifCond .ne 5, 3) := by decide +kernel
theorem dX8_copy_11 : decode cX8_copy 11 = .ok (.iconst (-1), 1) := by decide +kernel
theorem dX8_copy_12 : decode cX8_copy 12 = .ok (.ireturn, 1) := by decide +kernel
theorem dX8_copy_13 : decode cX8_copy 13 = .ok (.iload_n 2, 1) := by decide +kernel
theorem dX8_copy_14 : decode cX8_copy 14 = .ok (.tableswitch 56 0 2 #[26, 36, 46], 26) := by decide +kernel
theorem dX8_copy_40 : decode cX8_copy 40 = .ok (.aload_n 0, 1) := by decide +kernel
theorem dX8_copy_41 : decode cX8_copy 41 = .ok (.getfield 37, 3) := by decide +kernel
theorem dX8_copy_44 : decode cX8_copy 44 = .ok (.getfield 128, 3) := by decide +kernel
theorem dX8_copy_47 : decode cX8_copy 47 = .ok (.iload_n 1, 1) := by decide +kernel
theorem dX8_copy_48 : decode cX8_copy 48 = .ok (.iaload, 1) := by decide +kernel
theorem dX8_copy_49 : decode cX8_copy 49 = .ok (.ireturn, 1) := by decide +kernel
theorem dX8_copy_50 : decode cX8_copy 50 = .ok (.aload_n 0, 1) := by decide +kernel
theorem dX8_copy_51 : decode cX8_copy 51 = .ok (.getfield 37, 3) := by decide +kernel
theorem dX8_copy_54 : decode cX8_copy 54 = .ok (.getfield 129, 3) := by decide +kernel
theorem dX8_copy_57 : decode cX8_copy 57 = .ok (.iload_n 1, 1) := by decide +kernel
theorem dX8_copy_58 : decode cX8_copy 58 = .ok (.iaload, 1) := by decide +kernel
theorem dX8_copy_59 : decode cX8_copy 59 = .ok (.ireturn, 1) := by decide +kernel
theorem dX8_copy_60 : decode cX8_copy 60 = .ok (.aload_n 0, 1) := by decide +kernel
theorem dX8_copy_61 : decode cX8_copy 61 = .ok (.getfield 37, 3) := by decide +kernel
theorem dX8_copy_64 : decode cX8_copy 64 = .ok (.getfield 132, 3) := by decide +kernel
theorem dX8_copy_67 : decode cX8_copy 67 = .ok (.iload_n 1, 1) := by decide +kernel
theorem dX8_copy_68 : decode cX8_copy 68 = .ok (.iaload, 1) := by decide +kernel
theorem dX8_copy_69 : decode cX8_copy 69 = .ok (.ireturn, 1) := by decide +kernel
theorem dX8_copy_70 : decode cX8_copy 70 = .ok (.iconst (-1), 1) := by decide +kernel
theorem dX8_copy_71 : decode cX8_copy 71 = .ok (.ireturn, 1) := by decide +kernel
theorem dX8_pattern_0 : decode cX8_pattern 0 = .ok (.iload_n 1, 1) := by decide +kernel
theorem dX8_pattern_1 : decode cX8_pattern 1 = .ok (.iload_n 2, 1) := by decide +kernel
theorem dX8_pattern_2 : decode cX8_pattern 2 = .ok (.iload_n 3, 1) := by decide +kernel
theorem dX8_pattern_3 : decode cX8_pattern 3 = .ok (.iload 4, 2) := by decide +kernel
theorem dX8_pattern_5 : decode cX8_pattern 5 = .ok (.invokestatic 62, 3) := by decide +kernel
theorem dX8_pattern_8 : decode cX8_pattern 8 = .ok (.istore 5, 2) := by decide +kernel
theorem dX8_pattern_10 : decode cX8_pattern 10 = .ok (.iload 5, 2) := by decide +kernel
theorem dX8_pattern_12 : decode cX8_pattern 12 = .ok (.iconst (-1), 1) := by decide +kernel
theorem dX8_pattern_13 : decode cX8_pattern 13 = .ok (.if_icmp .eq 18, 3) := by decide +kernel
theorem dX8_pattern_16 : decode cX8_pattern 16 = .ok (.aload_n 0, 1) := by decide +kernel
theorem dX8_pattern_17 : decode cX8_pattern 17 = .ok (.getfield 44, 3) := by decide +kernel
theorem dX8_pattern_20 : decode cX8_pattern 20 = .ok (.getfield 135, 3) := by decide +kernel
theorem dX8_pattern_23 : decode cX8_pattern 23 = .ok (.iload 5, 2) := by decide +kernel
theorem dX8_pattern_25 : decode cX8_pattern 25 = .ok (.iadd, 1) := by decide +kernel
theorem dX8_pattern_26 : decode cX8_pattern 26 = .ok (.bipush 40, 2) := by decide +kernel
theorem dX8_pattern_28 : decode cX8_pattern 28 = .ok (.if_icmp .le 5, 3) := by decide +kernel
theorem dX8_pattern_31 : decode cX8_pattern 31 = .ok (.iconst (-1), 1) := by decide +kernel
theorem dX8_pattern_32 : decode cX8_pattern 32 = .ok (.ireturn, 1) := by decide +kernel
theorem dX8_pattern_33 : decode cX8_pattern 33 = .ok (.aload_n 0, 1) := by decide +kernel
theorem dX8_pattern_34 : decode cX8_pattern 34 = .ok (.getfield 44, 3) := by decide +kernel
theorem dX8_pattern_37 : decode cX8_pattern 37 = .ok (.iload_n 1, 1) := by decide +kernel
theorem dX8_pattern_38 : decode cX8_pattern 38 = .ok (.invokevirtual 138, 3) := by decide +kernel
theorem dX8_pattern_41 : decode cX8_pattern 41 = .ok (.aload_n 0, 1) := by decide +kernel
theorem dX8_pattern_42 : decode cX8_pattern 42 = .ok (.getfield 44, 3) := by decide +kernel
theorem dX8_pattern_45 : decode cX8_pattern 45 = .ok (.iload_n 2, 1) := by decide +kernel
theorem dX8_pattern_46 : decode cX8_pattern 46 = .ok (.invokevirtual 138, 3) := by decide +kernel
theorem dX8_pattern_49 : decode cX8_pattern 49 = .ok (.aload_n 0, 1) := by decide +kernel
theorem dX8_pattern_50 : decode cX8_pattern 50 = .ok (.getfield 44, 3) := by decide +kernel
theorem dX8_pattern_53 : decode cX8_pattern 53 = .ok (.iload_n 3, 1) := by decide +kernel
theorem dX8_pattern_54 : decode cX8_pattern 54 = .ok (.invokevirtual 138, 3) := by decide +kernel
theorem dX8_pattern_57 : decode cX8_pattern 57 = .ok (.aload_n 0, 1) := by decide +kernel
theorem dX8_pattern_58 : decode cX8_pattern 58 = .ok (.getfield 44, 3) := by decide +kernel
theorem dX8_pattern_61 : decode cX8_pattern 61 = .ok (.iload 4, 2) := by decide +kernel
theorem dX8_pattern_63 : decode cX8_pattern 63 = .ok (.invokevirtual 138, 3) := by decide +kernel
theorem dX8_pattern_66 : decode cX8_pattern 66 = .ok (.aload_n 0, 1) := by decide +kernel
theorem dX8_pattern_67 : decode cX8_pattern 67 = .ok (.getfield 44, 3) := by decide +kernel
theorem dX8_pattern_70 : decode cX8_pattern 70 = .ok (.getfield 135, 3) := by decide +kernel
theorem dX8_pattern_73 : decode cX8_pattern 73 = .ok (.ireturn, 1) := by decide +kernel
theorem dX8_wipe_0 : decode cX8_wipe 0 = .ok (.aload_n 0, 1) := by decide +kernel
theorem dX8_wipe_1 : decode cX8_wipe 1 = .ok (.getfield 44, 3) := by decide +kernel
theorem dX8_wipe_4 : decode cX8_wipe 4 = .ok (.getfield 135, 3) := by decide +kernel
theorem dX8_wipe_7 : decode cX8_wipe 7 = .ok (.istore_n 1, 1) := by decide +kernel
theorem dX8_wipe_8 : decode cX8_wipe 8 = .ok (.aload_n 0, 1) := by decide +kernel
theorem dX8_wipe_9 : decode cX8_wipe 9 = .ok (.getfield 44, 3) := by decide +kernel
theorem dX8_wipe_12 : decode cX8_wipe 12 = .ok (.iconst 0, 1) := by decide +kernel
theorem dX8_wipe_13 : decode cX8_wipe 13 = .ok (.putfield 135, 3) := by decide +kernel
theorem dX8_wipe_16 : decode cX8_wipe 16 = .ok (.iload_n 1, 1) := by decide +kernel
theorem dX8_wipe_17 : decode cX8_wipe 17 = .ok (.ireturn, 1) := by decide +kernel
theorem dX8_find_0 : decode cX8_find 0 = .ok (.aload_n 0, 1) := by decide +kernel
theorem dX8_find_1 : decode cX8_find 1 = .ok (.getfield 44, 3) := by decide +kernel
theorem dX8_find_4 : decode cX8_find 4 = .ok (.iconst 0, 1) := by decide +kernel
theorem dX8_find_5 : decode cX8_find 5 = .ok (.invokevirtual 141, 3) := by decide +kernel
theorem dX8_find_8 : decode cX8_find 8 = .ok (.istore_n 2, 1) := by decide +kernel
theorem dX8_find_9 : decode cX8_find 9 = .ok (.aload_n 0, 1) := by decide +kernel
theorem dX8_find_10 : decode cX8_find 10 = .ok (.getfield 44, 3) := by decide +kernel
theorem dX8_find_13 : decode cX8_find 13 = .ok (.iconst 1, 1) := by decide +kernel
theorem dX8_find_14 : decode cX8_find 14 = .ok (.invokevirtual 141, 3) := by decide +kernel
theorem dX8_find_17 : decode cX8_find 17 = .ok (.istore_n 3, 1) := by decide +kernel
theorem dX8_find_18 : decode cX8_find 18 = .ok (.iload_n 1, 1) := by decide +kernel
theorem dX8_find_19 : decode cX8_find 19 = .ok (.tableswitch 82 0 5 #[37, 41, 43, 53, 63, 73], 37) := by decide +kernel
theorem dX8_find_56 : decode cX8_find 56 = .ok (.iload_n 3, 1) := by decide +kernel
theorem dX8_find_57 : decode cX8_find 57 = .ok (.iload_n 2, 1) := by decide +kernel
theorem dX8_find_58 : decode cX8_find 58 = .ok (.isub, 1) := by decide +kernel
theorem dX8_find_59 : decode cX8_find 59 = .ok (.ireturn, 1) := by decide +kernel
theorem dX8_find_60 : decode cX8_find 60 = .ok (.iload_n 2, 1) := by decide +kernel
theorem dX8_find_61 : decode cX8_find 61 = .ok (.ireturn, 1) := by decide +kernel
theorem dX8_find_62 : decode cX8_find 62 = .ok (.aload_n 0, 1) := by decide +kernel
theorem dX8_find_63 : decode cX8_find 63 = .ok (.getfield 28, 3) := by decide +kernel
theorem dX8_find_66 : decode cX8_find 66 = .ok (.iload_n 2, 1) := by decide +kernel
theorem dX8_find_67 : decode cX8_find 67 = .ok (.iload_n 3, 1) := by decide +kernel
theorem dX8_find_68 : decode cX8_find 68 = .ok (.invokevirtual 144, 3) := by decide +kernel
theorem dX8_find_71 : decode cX8_find 71 = .ok (.ireturn, 1) := by decide +kernel
theorem dX8_find_72 : decode cX8_find 72 = .ok (.aload_n 0, 1) := by decide +kernel
theorem dX8_find_73 : decode cX8_find 73 = .ok (.getfield 28, 3) := by decide +kernel
theorem dX8_find_76 : decode cX8_find 76 = .ok (.iload_n 2, 1) := by decide +kernel
theorem dX8_find_77 : decode cX8_find 77 = .ok (.iload_n 3, 1) := by decide +kernel
theorem dX8_find_78 : decode cX8_find 78 = .ok (.invokevirtual 148, 3) := by decide +kernel
theorem dX8_find_81 : decode cX8_find 81 = .ok (.ireturn, 1) := by decide +kernel
theorem dX8_find_82 : decode cX8_find 82 = .ok (.aload_n 0, 1) := by decide +kernel
theorem dX8_find_83 : decode cX8_find 83 = .ok (.getfield 28, 3) := by decide +kernel
theorem dX8_find_86 : decode cX8_find 86 = .ok (.iload_n 2, 1) := by decide +kernel
theorem dX8_find_87 : decode cX8_find 87 = .ok (.iload_n 3, 1) := by decide +kernel
theorem dX8_find_88 : decode cX8_find 88 = .ok (.invokevirtual 151, 3) := by decide +kernel
theorem dX8_find_91 : decode cX8_find 91 = .ok (.ireturn, 1) := by decide +kernel
theorem dX8_find_92 : decode cX8_find 92 = .ok (.aload_n 0, 1) := by decide +kernel
theorem dX8_find_93 : decode cX8_find 93 = .ok (.getfield 44, 3) := by decide +kernel
theorem dX8_find_96 : decode cX8_find 96 = .ok (.iload_n 2, 1) := by decide +kernel
theorem dX8_find_97 : decode cX8_find 97 = .ok (.invokevirtual 154, 3) := by decide +kernel
theorem dX8_find_100 : decode cX8_find 100 = .ok (.ireturn, 1) := by decide +kernel
theorem dX8_find_101 : decode cX8_find 101 = .ok (.iconst (-1), 1) := by decide +kernel
theorem dX8_find_102 : decode cX8_find 102 = .ok (.ireturn, 1) := by decide +kernel
theorem dX8_where_0 : decode cX8_where 0 = .ok (.iload_n 1, 1) := by decide +kernel
theorem dX8_where_1 : decode cX8_where 1 = .ok (.ifCond .ge 7, 3) := by decide +kernel
theorem dX8_where_4 : decode cX8_where 4 = .ok (.iconst (-1), 1) := by decide +kernel
theorem dX8_where_5 : decode cX8_where 5 = .ok (.goto 11, 3) := by decide +kernel
theorem dX8_where_8 : decode cX8_where 8 = .ok (.aload_n 0, 1) := by decide +kernel
theorem dX8_where_9 : decode cX8_where 9 = .ok (.getfield 44, 3) := by decide +kernel
theorem dX8_where_12 : decode cX8_where 12 = .ok (.iload_n 1, 1) := by decide +kernel
theorem dX8_where_13 : decode cX8_where 13 = .ok (.invokevirtual 157, 3) := by decide +kernel
theorem dX8_where_16 : decode cX8_where 16 = .ok (.ireturn, 1) := by decide +kernel
theorem dX8_different_0 : decode cX8_different 0 = .ok (.aload_n 0, 1) := by decide +kernel
theorem dX8_different_1 : decode cX8_different 1 = .ok (.getfield 51, 3) := by decide +kernel
theorem dX8_different_4 : decode cX8_different 4 = .ok (.invokevirtual 160, 3) := by decide +kernel
theorem dX8_different_7 : decode cX8_different 7 = .ok (.lreturn, 1) := by decide +kernel
theorem dX8_repeats_0 : decode cX8_repeats 0 = .ok (.iload_n 1, 1) := by decide +kernel
theorem dX8_repeats_1 : decode cX8_repeats 1 = .ok (.iconst 1, 1) := by decide +kernel
theorem dX8_repeats_2 : decode cX8_repeats 2 = .ok (.if_icmp .lt 15, 3) := by decide +kernel
theorem dX8_repeats_5 : decode cX8_repeats 5 = .ok (.iload_n 2, 1) := by decide +kernel
theorem dX8_repeats_6 : decode cX8_repeats 6 = .ok (.iconst 1, 1) := by decide +kernel
theorem dX8_repeats_7 : decode cX8_repeats 7 = .ok (.if_icmp .lt 10, 3) := by decide +kernel
theorem dX8_repeats_10 : decode cX8_repeats 10 = .ok (.iload_n 2, 1) := by decide +kernel
theorem dX8_repeats_11 : decode cX8_repeats 11 = .ok (.sipush 408, 3) := by decide +kernel
theorem dX8_repeats_14 : decode cX8_repeats 14 = .ok (.if_icmp .le 5, 3) := by decide +kernel
theorem dX8_repeats_17 : decode cX8_repeats 17 = .ok (.iconst (-1), 1) := by decide +kernel
theorem dX8_repeats_18 : decode cX8_repeats 18 = .ok (.ireturn, 1) := by decide +kernel
theorem dX8_repeats_19 : decode cX8_repeats 19 = .ok (.aload_n 0, 1) := by decide +kernel
theorem dX8_repeats_20 : decode cX8_repeats 20 = .ok (.getfield 51, 3) := by decide +kernel
theorem dX8_repeats_23 : decode cX8_repeats 23 = .ok (.iload_n 1, 1) := by decide +kernel
theorem dX8_repeats_24 : decode cX8_repeats 24 = .ok (.iload_n 2, 1) := by decide +kernel
theorem dX8_repeats_25 : decode cX8_repeats 25 = .ok (.invokevirtual 164, 3) := by decide +kernel
theorem dX8_repeats_28 : decode cX8_repeats 28 = .ok (.ireturn, 1) := by decide +kernel
theorem dX8_longest_0 : decode cX8_longest 0 = .ok (.iload_n 1, 1) := by decide +kernel
theorem dX8_longest_1 : decode cX8_longest 1 = .ok (.iconst 2, 1) := by decide +kernel
theorem dX8_longest_2 : decode cX8_longest 2 = .ok (.if_icmp .lt 19, 3) := by decide +kernel
theorem dX8_longest_5 : decode cX8_longest 5 = .ok (.iload_n 1, 1) := by decide +kernel
theorem dX8_longest_6 : decode cX8_longest 6 = .ok (.sipush 408, 3) := by decide +kernel
theorem dX8_longest_9 : decode cX8_longest 9 = .ok (.if_icmp .gt 12, 3) := by decide +kernel
theorem dX8_longest_12 : decode cX8_longest 12 = .ok (.iload_n 2, 1) := by decide +kernel
theorem dX8_longest_13 : decode cX8_longest 13 = .ok (.ifCond .lt 8, 3) := by decide +kernel
theorem dX8_longest_16 : decode cX8_longest 16 = .ok (.iload_n 2, 1) := by decide +kernel
theorem dX8_longest_17 : decode cX8_longest 17 = .ok (.iconst 2, 1) := by decide +kernel
theorem dX8_longest_18 : decode cX8_longest 18 = .ok (.if_icmp .le 5, 3) := by decide +kernel
theorem dX8_longest_21 : decode cX8_longest 21 = .ok (.iconst (-1), 1) := by decide +kernel
theorem dX8_longest_22 : decode cX8_longest 22 = .ok (.ireturn, 1) := by decide +kernel
theorem dX8_longest_23 : decode cX8_longest 23 = .ok (.aload_n 0, 1) := by decide +kernel
theorem dX8_longest_24 : decode cX8_longest 24 = .ok (.getfield 51, 3) := by decide +kernel
theorem dX8_longest_27 : decode cX8_longest 27 = .ok (.iload_n 1, 1) := by decide +kernel
theorem dX8_longest_28 : decode cX8_longest 28 = .ok (.iconst 0, 1) := by decide +kernel
theorem dX8_longest_29 : decode cX8_longest 29 = .ok (.iload_n 2, 1) := by decide +kernel
theorem dX8_longest_30 : decode cX8_longest 30 = .ok (.invokevirtual 167, 3) := by decide +kernel
theorem dX8_longest_33 : decode cX8_longest 33 = .ok (.ireturn, 1) := by decide +kernel
theorem dX8_shared_0 : decode cX8_shared 0 = .ok (.iload_n 1, 1) := by decide +kernel
theorem dX8_shared_1 : decode cX8_shared 1 = .ok (.iconst 1, 1) := by decide +kernel
theorem dX8_shared_2 : decode cX8_shared 2 = .ok (.if_icmp .lt 18, 3) := by decide +kernel
theorem dX8_shared_5 : decode cX8_shared 5 = .ok (.iload_n 1, 1) := by decide +kernel
theorem dX8_shared_6 : decode cX8_shared 6 = .ok (.bipush 8, 2) := by decide +kernel
theorem dX8_shared_8 : decode cX8_shared 8 = .ok (.if_icmp .gt 12, 3) := by decide +kernel
theorem dX8_shared_11 : decode cX8_shared 11 = .ok (.iload_n 2, 1) := by decide +kernel
theorem dX8_shared_12 : decode cX8_shared 12 = .ok (.ifCond .lt 8, 3) := by decide +kernel
theorem dX8_shared_15 : decode cX8_shared 15 = .ok (.iload_n 2, 1) := by decide +kernel
theorem dX8_shared_16 : decode cX8_shared 16 = .ok (.iconst 3, 1) := by decide +kernel
theorem dX8_shared_17 : decode cX8_shared 17 = .ok (.if_icmp .le 5, 3) := by decide +kernel
theorem dX8_shared_20 : decode cX8_shared 20 = .ok (.iconst (-1), 1) := by decide +kernel
theorem dX8_shared_21 : decode cX8_shared 21 = .ok (.ireturn, 1) := by decide +kernel
theorem dX8_shared_22 : decode cX8_shared 22 = .ok (.aload_n 0, 1) := by decide +kernel
theorem dX8_shared_23 : decode cX8_shared 23 = .ok (.getfield 51, 3) := by decide +kernel
theorem dX8_shared_26 : decode cX8_shared 26 = .ok (.iload_n 1, 1) := by decide +kernel
theorem dX8_shared_27 : decode cX8_shared 27 = .ok (.iconst 1, 1) := by decide +kernel
theorem dX8_shared_28 : decode cX8_shared 28 = .ok (.iload_n 2, 1) := by decide +kernel
theorem dX8_shared_29 : decode cX8_shared 29 = .ok (.invokevirtual 167, 3) := by decide +kernel
theorem dX8_shared_32 : decode cX8_shared 32 = .ok (.ireturn, 1) := by decide +kernel
theorem dX8_before_0 : decode cX8_before 0 = .ok (.aload_n 0, 1) := by decide +kernel
theorem dX8_before_1 : decode cX8_before 1 = .ok (.getfield 19, 3) := by decide +kernel
theorem dX8_before_4 : decode cX8_before 4 = .ok (.iload_n 1, 1) := by decide +kernel
theorem dX8_before_5 : decode cX8_before 5 = .ok (.invokevirtual 99, 3) := by decide +kernel
theorem dX8_before_8 : decode cX8_before 8 = .ok (.ifCond .eq 29, 3) := by decide +kernel
theorem dX8_before_11 : decode cX8_before 11 = .ok (.aload_n 0, 1) := by decide +kernel
theorem dX8_before_12 : decode cX8_before 12 = .ok (.getfield 19, 3) := by decide +kernel
theorem dX8_before_15 : decode cX8_before 15 = .ok (.aload_n 0, 1) := by decide +kernel
theorem dX8_before_16 : decode cX8_before 16 = .ok (.getfield 19, 3) := by decide +kernel
theorem dX8_before_19 : decode cX8_before 19 = .ok (.aload_n 0, 1) := by decide +kernel
theorem dX8_before_20 : decode cX8_before 20 = .ok (.getfield 28, 3) := by decide +kernel
theorem dX8_before_23 : decode cX8_before 23 = .ok (.getfield 112, 3) := by decide +kernel
theorem dX8_before_26 : decode cX8_before 26 = .ok (.iload_n 1, 1) := by decide +kernel
theorem dX8_before_27 : decode cX8_before 27 = .ok (.iaload, 1) := by decide +kernel
theorem dX8_before_28 : decode cX8_before 28 = .ok (.invokevirtual 171, 3) := by decide +kernel
theorem dX8_before_31 : decode cX8_before 31 = .ok (.invokevirtual 102, 3) := by decide +kernel
theorem dX8_before_34 : decode cX8_before 34 = .ok (.goto 4, 3) := by decide +kernel
theorem dX8_before_37 : decode cX8_before 37 = .ok (.iconst (-1), 1) := by decide +kernel
theorem dX8_before_38 : decode cX8_before 38 = .ok (.ireturn, 1) := by decide +kernel
theorem dX8_back_0 : decode cX8_back 0 = .ok (.aload_n 0, 1) := by decide +kernel
theorem dX8_back_1 : decode cX8_back 1 = .ok (.getfield 19, 3) := by decide +kernel
theorem dX8_back_4 : decode cX8_back 4 = .ok (.iload_n 1, 1) := by decide +kernel
theorem dX8_back_5 : decode cX8_back 5 = .ok (.invokevirtual 99, 3) := by decide +kernel
theorem dX8_back_8 : decode cX8_back 8 = .ok (.ifCond .eq 30, 3) := by decide +kernel
theorem dX8_back_11 : decode cX8_back 11 = .ok (.aload_n 0, 1) := by decide +kernel
theorem dX8_back_12 : decode cX8_back 12 = .ok (.getfield 28, 3) := by decide +kernel
theorem dX8_back_15 : decode cX8_back 15 = .ok (.getfield 115, 3) := by decide +kernel
theorem dX8_back_18 : decode cX8_back 18 = .ok (.aload_n 0, 1) := by decide +kernel
theorem dX8_back_19 : decode cX8_back 19 = .ok (.getfield 19, 3) := by decide +kernel
theorem dX8_back_22 : decode cX8_back 22 = .ok (.aload_n 0, 1) := by decide +kernel
theorem dX8_back_23 : decode cX8_back 23 = .ok (.getfield 28, 3) := by decide +kernel
theorem dX8_back_26 : decode cX8_back 26 = .ok (.getfield 112, 3) := by decide +kernel
theorem dX8_back_29 : decode cX8_back 29 = .ok (.iload_n 1, 1) := by decide +kernel
theorem dX8_back_30 : decode cX8_back 30 = .ok (.iaload, 1) := by decide +kernel
theorem dX8_back_31 : decode cX8_back 31 = .ok (.invokevirtual 171, 3) := by decide +kernel
theorem dX8_back_34 : decode cX8_back 34 = .ok (.iaload, 1) := by decide +kernel
theorem dX8_back_35 : decode cX8_back 35 = .ok (.goto 4, 3) := by decide +kernel
theorem dX8_back_38 : decode cX8_back 38 = .ok (.iconst (-1), 1) := by decide +kernel
theorem dX8_back_39 : decode cX8_back 39 = .ok (.ireturn, 1) := by decide +kernel
theorem dX8_steps_0 : decode cX8_steps 0 = .ok (.aload_n 0, 1) := by decide +kernel
theorem dX8_steps_1 : decode cX8_steps 1 = .ok (.getfield 19, 3) := by decide +kernel
theorem dX8_steps_4 : decode cX8_steps 4 = .ok (.iload_n 1, 1) := by decide +kernel
theorem dX8_steps_5 : decode cX8_steps 5 = .ok (.invokevirtual 99, 3) := by decide +kernel
theorem dX8_steps_8 : decode cX8_steps 8 = .ok (.ifCond .eq 14, 3) := by decide +kernel
theorem dX8_steps_11 : decode cX8_steps 11 = .ok (.iload_n 2, 1) := by decide +kernel
theorem dX8_steps_12 : decode cX8_steps 12 = .ok (.iconst 1, 1) := by decide +kernel
theorem dX8_steps_13 : decode cX8_steps 13 = .ok (.if_icmp .lt 9, 3) := by decide +kernel
theorem dX8_steps_16 : decode cX8_steps 16 = .ok (.iload_n 2, 1) := by decide +kernel
theorem dX8_steps_17 : decode cX8_steps 17 = .ok (.bipush 64, 2) := by decide +kernel
theorem dX8_steps_19 : decode cX8_steps 19 = .ok (.if_icmp .le 5, 3) := by decide +kernel
theorem dX8_steps_22 : decode cX8_steps 22 = .ok (.iconst (-1), 1) := by decide +kernel
theorem dX8_steps_23 : decode cX8_steps 23 = .ok (.ireturn, 1) := by decide +kernel
theorem dX8_steps_24 : decode cX8_steps 24 = .ok (.aload_n 0, 1) := by decide +kernel
theorem dX8_steps_25 : decode cX8_steps 25 = .ok (.getfield 28, 3) := by decide +kernel
theorem dX8_steps_28 : decode cX8_steps 28 = .ok (.getfield 112, 3) := by decide +kernel
theorem dX8_steps_31 : decode cX8_steps 31 = .ok (.iload_n 1, 1) := by decide +kernel
theorem dX8_steps_32 : decode cX8_steps 32 = .ok (.iaload, 1) := by decide +kernel
theorem dX8_steps_33 : decode cX8_steps 33 = .ok (.iload_n 2, 1) := by decide +kernel
theorem dX8_steps_34 : decode cX8_steps 34 = .ok (.irem, 1) := by decide +kernel
theorem dX8_steps_35 : decode cX8_steps 35 = .ok (.ireturn, 1) := by decide +kernel
theorem dX8_swap_0 : decode cX8_swap 0 = .ok (.aload_n 0, 1) := by decide +kernel
theorem dX8_swap_1 : decode cX8_swap 1 = .ok (.getfield 19, 3) := by decide +kernel
theorem dX8_swap_4 : decode cX8_swap 4 = .ok (.iload_n 1, 1) := by decide +kernel
theorem dX8_swap_5 : decode cX8_swap 5 = .ok (.invokevirtual 99, 3) := by decide +kernel
theorem dX8_swap_8 : decode cX8_swap 8 = .ok (.ifCond .eq 14, 3) := by decide +kernel
theorem dX8_swap_11 : decode cX8_swap 11 = .ok (.aload_n 0, 1) := by decide +kernel
theorem dX8_swap_12 : decode cX8_swap 12 = .ok (.getfield 19, 3) := by decide +kernel
theorem dX8_swap_15 : decode cX8_swap 15 = .ok (.iload_n 2, 1) := by decide +kernel
theorem dX8_swap_16 : decode cX8_swap 16 = .ok (.invokevirtual 99, 3) := by decide +kernel
theorem dX8_swap_19 : decode cX8_swap 19 = .ok (.ifCond .ne 5, 3) := by decide +kernel
theorem dX8_swap_22 : decode cX8_swap 22 = .ok (.iconst (-1), 1) := by decide +kernel
theorem dX8_swap_23 : decode cX8_swap 23 = .ok (.ireturn, 1) := by decide +kernel
theorem dX8_swap_24 : decode cX8_swap 24 = .ok (.aload_n 0, 1) := by decide +kernel
theorem dX8_swap_25 : decode cX8_swap 25 = .ok (.getfield 58, 3) := by decide +kernel
theorem dX8_swap_28 : decode cX8_swap 28 = .ok (.iload_n 2, 1) := by decide +kernel
theorem dX8_swap_29 : decode cX8_swap 29 = .ok (.aload_n 0, 1) := by decide +kernel
theorem dX8_swap_30 : decode cX8_swap 30 = .ok (.getfield 58, 3) := by decide +kernel
theorem dX8_swap_33 : decode cX8_swap 33 = .ok (.getfield 174, 3) := by decide +kernel
theorem dX8_swap_36 : decode cX8_swap 36 = .ok (.iload_n 1, 1) := by decide +kernel
theorem dX8_swap_37 : decode cX8_swap 37 = .ok (.iaload, 1) := by decide +kernel
theorem dX8_swap_38 : decode cX8_swap 38 = .ok (.invokevirtual 177, 3) := by decide +kernel
theorem dX8_swap_41 : decode cX8_swap 41 = .ok (.istore_n 3, 1) := by decide +kernel
theorem dX8_swap_42 : decode cX8_swap 42 = .ok (.aload_n 0, 1) := by decide +kernel
theorem dX8_swap_43 : decode cX8_swap 43 = .ok (.getfield 58, 3) := by decide +kernel
theorem dX8_swap_46 : decode cX8_swap 46 = .ok (.iload_n 1, 1) := by decide +kernel
theorem dX8_swap_47 : decode cX8_swap 47 = .ok (.iload_n 3, 1) := by decide +kernel
theorem dX8_swap_48 : decode cX8_swap 48 = .ok (.invokevirtual 177, 3) := by decide +kernel
theorem dX8_swap_51 : decode cX8_swap 51 = .ok (.pop, 1) := by decide +kernel
theorem dX8_swap_52 : decode cX8_swap 52 = .ok (.iconst 1, 1) := by decide +kernel
theorem dX8_swap_53 : decode cX8_swap 53 = .ok (.ireturn, 1) := by decide +kernel
theorem dX8_tell_0 : decode cX8_tell 0 = .ok (.aload_n 0, 1) := by decide +kernel
theorem dX8_tell_1 : decode cX8_tell 1 = .ok (.getfield 19, 3) := by decide +kernel
theorem dX8_tell_4 : decode cX8_tell 4 = .ok (.iload_n 1, 1) := by decide +kernel
theorem dX8_tell_5 : decode cX8_tell 5 = .ok (.invokevirtual 99, 3) := by decide +kernel
theorem dX8_tell_8 : decode cX8_tell 8 = .ok (.ifCond .eq 15, 3) := by decide +kernel
theorem dX8_tell_11 : decode cX8_tell 11 = .ok (.aload_n 0, 1) := by decide +kernel
theorem dX8_tell_12 : decode cX8_tell 12 = .ok (.getfield 58, 3) := by decide +kernel
theorem dX8_tell_15 : decode cX8_tell 15 = .ok (.iload_n 1, 1) := by decide +kernel
theorem dX8_tell_16 : decode cX8_tell 16 = .ok (.iload_n 2, 1) := by decide +kernel
theorem dX8_tell_17 : decode cX8_tell 17 = .ok (.invokevirtual 177, 3) := by decide +kernel
theorem dX8_tell_20 : decode cX8_tell 20 = .ok (.goto 4, 3) := by decide +kernel
theorem dX8_tell_23 : decode cX8_tell 23 = .ok (.iconst (-1), 1) := by decide +kernel
theorem dX8_tell_24 : decode cX8_tell 24 = .ok (.ireturn, 1) := by decide +kernel
theorem dX8_judge_0 : decode cX8_judge 0 = .ok (.aload_n 0, 1) := by decide +kernel
theorem dX8_judge_1 : decode cX8_judge 1 = .ok (.getfield 58, 3) := by decide +kernel
theorem dX8_judge_4 : decode cX8_judge 4 = .ok (.invokevirtual 180, 3) := by decide +kernel
theorem dX8_judge_7 : decode cX8_judge 7 = .ok (.ireturn, 1) := by decide +kernel
theorem dX8_isText_0 : decode cX8_isText 0 = .ok (.iload_n 0, 1) := by decide +kernel
theorem dX8_isText_1 : decode cX8_isText 1 = .ok (.ifCond .lt 13, 3) := by decide +kernel
theorem dX8_isText_4 : decode cX8_isText 4 = .ok (.iload_n 0, 1) := by decide +kernel
theorem dX8_isText_5 : decode cX8_isText 5 = .ok (.bipush 8, 2) := by decide +kernel
theorem dX8_isText_7 : decode cX8_isText 7 = .ok (.if_icmp .ge 7, 3) := by decide +kernel
theorem dX8_isText_10 : decode cX8_isText 10 = .ok (.iconst 1, 1) := by decide +kernel
theorem dX8_isText_11 : decode cX8_isText 11 = .ok (.goto 4, 3) := by decide +kernel
theorem dX8_isText_14 : decode cX8_isText 14 = .ok (.iconst 0, 1) := by decide +kernel
theorem dX8_isText_15 : decode cX8_isText 15 = .ok (.ireturn, 1) := by decide +kernel
theorem dX8_countSigns_0 : decode cX8_countSigns 0 = .ok (.iload_n 0, 1) := by decide +kernel
theorem dX8_countSigns_1 : decode cX8_countSigns 1 = .ok (.invokestatic 184, 3) := by decide +kernel
theorem dX8_countSigns_4 : decode cX8_countSigns 4 = .ok (.ifCond .eq 24, 3) := by decide +kernel
theorem dX8_countSigns_7 : decode cX8_countSigns 7 = .ok (.iload_n 1, 1) := by decide +kernel
theorem dX8_countSigns_8 : decode cX8_countSigns 8 = .ok (.invokestatic 184, 3) := by decide +kernel
theorem dX8_countSigns_11 : decode cX8_countSigns 11 = .ok (.ifCond .eq 17, 3) := by decide +kernel
theorem dX8_countSigns_14 : decode cX8_countSigns 14 = .ok (.iload_n 2, 1) := by decide +kernel
theorem dX8_countSigns_15 : decode cX8_countSigns 15 = .ok (.invokestatic 184, 3) := by decide +kernel
theorem dX8_countSigns_18 : decode cX8_countSigns 18 = .ok (.ifCond .eq 10, 3) := by decide +kernel
theorem dX8_countSigns_21 : decode cX8_countSigns 21 = .ok (.iload_n 3, 1) := by decide +kernel
theorem dX8_countSigns_22 : decode cX8_countSigns 22 = .ok (.invokestatic 184, 3) := by decide +kernel
theorem dX8_countSigns_25 : decode cX8_countSigns 25 = .ok (.ifCond .ne 5, 3) := by decide +kernel
theorem dX8_countSigns_28 : decode cX8_countSigns 28 = .ok (.iconst (-1), 1) := by decide +kernel
theorem dX8_countSigns_29 : decode cX8_countSigns 29 = .ok (.ireturn, 1) := by decide +kernel
theorem dX8_countSigns_30 : decode cX8_countSigns 30 = .ok (.iload_n 0, 1) := by decide +kernel
theorem dX8_countSigns_31 : decode cX8_countSigns 31 = .ok (.invokestatic 187, 3) := by decide +kernel
theorem dX8_countSigns_34 : decode cX8_countSigns 34 = .ok (.iload_n 1, 1) := by decide +kernel
theorem dX8_countSigns_35 : decode cX8_countSigns 35 = .ok (.invokestatic 187, 3) := by decide +kernel
theorem dX8_countSigns_38 : decode cX8_countSigns 38 = .ok (.iadd, 1) := by decide +kernel
theorem dX8_countSigns_39 : decode cX8_countSigns 39 = .ok (.iload_n 2, 1) := by decide +kernel
theorem dX8_countSigns_40 : decode cX8_countSigns 40 = .ok (.invokestatic 187, 3) := by decide +kernel
theorem dX8_countSigns_43 : decode cX8_countSigns 43 = .ok (.iadd, 1) := by decide +kernel
theorem dX8_countSigns_44 : decode cX8_countSigns 44 = .ok (.iload_n 3, 1) := by decide +kernel
theorem dX8_countSigns_45 : decode cX8_countSigns 45 = .ok (.invokestatic 187, 3) := by decide +kernel
theorem dX8_countSigns_48 : decode cX8_countSigns 48 = .ok (.iadd, 1) := by decide +kernel
theorem dX8_countSigns_49 : decode cX8_countSigns 49 = .ok (.ireturn, 1) := by decide +kernel
theorem dX8_isSignOrNone_0 : decode cX8_isSignOrNone 0 = .ok (.iload_n 0, 1) := by decide +kernel
theorem dX8_isSignOrNone_1 : decode cX8_isSignOrNone 1 = .ok (.iconst (-1), 1) := by decide +kernel
theorem dX8_isSignOrNone_2 : decode cX8_isSignOrNone 2 = .ok (.if_icmp .lt 14, 3) := by decide +kernel
theorem dX8_isSignOrNone_5 : decode cX8_isSignOrNone 5 = .ok (.iload_n 0, 1) := by decide +kernel
theorem dX8_isSignOrNone_6 : decode cX8_isSignOrNone 6 = .ok (.sipush 999, 3) := by decide +kernel
theorem dX8_isSignOrNone_9 : decode cX8_isSignOrNone 9 = .ok (.if_icmp .gt 7, 3) := by decide +kernel
theorem dX8_isSignOrNone_12 : decode cX8_isSignOrNone 12 = .ok (.iconst 1, 1) := by decide +kernel
theorem dX8_isSignOrNone_13 : decode cX8_isSignOrNone 13 = .ok (.goto 4, 3) := by decide +kernel
theorem dX8_isSignOrNone_16 : decode cX8_isSignOrNone 16 = .ok (.iconst 0, 1) := by decide +kernel
theorem dX8_isSignOrNone_17 : decode cX8_isSignOrNone 17 = .ok (.ireturn, 1) := by decide +kernel
theorem dX8_oneIfSign_0 : decode cX8_oneIfSign 0 = .ok (.iload_n 0, 1) := by decide +kernel
theorem dX8_oneIfSign_1 : decode cX8_oneIfSign 1 = .ok (.iconst (-1), 1) := by decide +kernel
theorem dX8_oneIfSign_2 : decode cX8_oneIfSign 2 = .ok (.if_icmp .ne 7, 3) := by decide +kernel
theorem dX8_oneIfSign_5 : decode cX8_oneIfSign 5 = .ok (.iconst 0, 1) := by decide +kernel
theorem dX8_oneIfSign_6 : decode cX8_oneIfSign 6 = .ok (.goto 4, 3) := by decide +kernel
theorem dX8_oneIfSign_9 : decode cX8_oneIfSign 9 = .ok (.iconst 1, 1) := by decide +kernel
theorem dX8_oneIfSign_10 : decode cX8_oneIfSign 10 = .ok (.ireturn, 1) := by decide +kernel
end
section
theorem dX9_init_0 : decode cX9_init 0 = .ok (.aload_n 0, 1) := by decide +kernel
theorem dX9_init_1 : decode cX9_init 1 = .ok (.invokespecial 1, 3) := by decide +kernel
theorem dX9_init_4 : decode cX9_init 4 = .ok (.aload_n 0, 1) := by decide +kernel
theorem dX9_init_5 : decode cX9_init 5 = .ok (.sipush 3200, 3) := by decide +kernel
theorem dX9_init_8 : decode cX9_init 8 = .ok (.newarray .int, 2) := by decide +kernel
theorem dX9_init_10 : decode cX9_init 10 = .ok (.putfield 7, 3) := by decide +kernel
theorem dX9_init_13 : decode cX9_init 13 = .ok (.aload_n 0, 1) := by decide +kernel
theorem dX9_init_14 : decode cX9_init 14 = .ok (.bipush 8, 2) := by decide +kernel
theorem dX9_init_16 : decode cX9_init 16 = .ok (.newarray .int, 2) := by decide +kernel
theorem dX9_init_18 : decode cX9_init 18 = .ok (.putfield 13, 3) := by decide +kernel
theorem dX9_init_21 : decode cX9_init 21 = .ok (.aload_n 0, 1) := by decide +kernel
theorem dX9_init_22 : decode cX9_init 22 = .ok (.sipush 408, 3) := by decide +kernel
theorem dX9_init_25 : decode cX9_init 25 = .ok (.newarray .int, 2) := by decide +kernel
theorem dX9_init_27 : decode cX9_init 27 = .ok (.putfield 16, 3) := by decide +kernel
theorem dX9_init_30 : decode cX9_init 30 = .ok (.aload_n 0, 1) := by decide +kernel
theorem dX9_init_31 : decode cX9_init 31 = .ok (.sipush 408, 3) := by decide +kernel
theorem dX9_init_34 : decode cX9_init 34 = .ok (.newarray .int, 2) := by decide +kernel
theorem dX9_init_36 : decode cX9_init 36 = .ok (.putfield 19, 3) := by decide +kernel
theorem dX9_init_39 : decode cX9_init 39 = .ok (.aload_n 0, 1) := by decide +kernel
theorem dX9_init_40 : decode cX9_init 40 = .ok (.bipush 8, 2) := by decide +kernel
theorem dX9_init_42 : decode cX9_init 42 = .ok (.newarray .int, 2) := by decide +kernel
theorem dX9_init_44 : decode cX9_init 44 = .ok (.putfield 22, 3) := by decide +kernel
theorem dX9_init_47 : decode cX9_init 47 = .ok (.aload_n 0, 1) := by decide +kernel
theorem dX9_init_48 : decode cX9_init 48 = .ok (.ldc 25, 2) := by decide +kernel
theorem dX9_init_50 : decode cX9_init 50 = .ok (.newarray .int, 2) := by decide +kernel
theorem dX9_init_52 : decode cX9_init 52 = .ok (.putfield 26, 3) := by decide +kernel
theorem dX9_init_55 : decode cX9_init 55 = .ok (.aload_n 0, 1) := by decide +kernel
theorem dX9_init_56 : decode cX9_init 56 = .ok (.sipush 408, 3) := by decide +kernel
theorem dX9_init_59 : decode cX9_init 59 = .ok (.newarray .int, 2) := by decide +kernel
theorem dX9_init_61 : decode cX9_init 61 = .ok (.putfield 29, 3) := by decide +kernel
theorem dX9_init_64 : decode cX9_init 64 = .ok (.aload_n 0, 1) := by decide +kernel
theorem dX9_init_65 : decode cX9_init 65 = .ok (.sipush 408, 3) := by decide +kernel
theorem dX9_init_68 : decode cX9_init 68 = .ok (.newarray .int, 2) := by decide +kernel
theorem dX9_init_70 : decode cX9_init 70 = .ok (.putfield 32, 3) := by decide +kernel
theorem dX9_init_73 : decode cX9_init 73 = .ok (.aload_n 0, 1) := by decide +kernel
theorem dX9_init_74 : decode cX9_init 74 = .ok (.sipush 408, 3) := by decide +kernel
theorem dX9_init_77 : decode cX9_init 77 = .ok (.newarray .int, 2) := by decide +kernel
theorem dX9_init_79 : decode cX9_init 79 = .ok (.putfield 35, 3) := by decide +kernel
theorem dX9_init_82 : decode cX9_init 82 = .ok (.aload_n 0, 1) := by decide +kernel
theorem dX9_init_83 : decode cX9_init 83 = .ok (.bipush 40, 2) := by decide +kernel
theorem dX9_init_85 : decode cX9_init 85 = .ok (.newarray .int, 2) := by decide +kernel
theorem dX9_init_87 : decode cX9_init 87 = .ok (.putfield 38, 3) := by decide +kernel
theorem dX9_init_90 : decode cX9_init 90 = .ok (.aload_n 0, 1) := by decide +kernel
theorem dX9_init_91 : decode cX9_init 91 = .ok (.bipush 8, 2) := by decide +kernel
theorem dX9_init_93 : decode cX9_init 93 = .ok (.newarray .int, 2) := by decide +kernel
theorem dX9_init_95 : decode cX9_init 95 = .ok (.putfield 41, 3) := by decide +kernel
theorem dX9_init_98 : decode cX9_init 98 = .ok (.aload_n 0, 1) := by decide +kernel
theorem dX9_init_99 : decode cX9_init 99 = .ok (.sipush 408, 3) := by decide +kernel
theorem dX9_init_102 : decode cX9_init 102 = .ok (.newarray .boolean, 2) := by decide +kernel
theorem dX9_init_104 : decode cX9_init 104 = .ok (.putfield 44, 3) := by decide +kernel
theorem dX9_init_107 : decode cX9_init 107 = .ok (.return_, 1) := by decide +kernel
theorem dX9_isText_0 : decode cX9_isText 0 = .ok (.iload_n 0, 1) := by decide +kernel
theorem dX9_isText_1 : decode cX9_isText 1 = .ok (.ifCond .lt 13, 3) := by decide +kernel
theorem dX9_isText_4 : decode cX9_isText 4 = .ok (.iload_n 0, 1) := by decide +kernel
theorem dX9_isText_5 : decode cX9_isText 5 = .ok (.bipush 8, 2) := by decide +kernel
theorem dX9_isText_7 : decode cX9_isText 7 = .ok (.if_icmp .ge 7, 3) := by decide +kernel
theorem dX9_isText_10 : decode cX9_isText 10 = .ok (.iconst 1, 1) := by decide +kernel
theorem dX9_isText_11 : decode cX9_isText 11 = .ok (.goto 4, 3) := by decide +kernel
theorem dX9_isText_14 : decode cX9_isText 14 = .ok (.iconst 0, 1) := by decide +kernel
theorem dX9_isText_15 : decode cX9_isText 15 = .ok (.ireturn, 1) := by decide +kernel
theorem dX9_isPlace_0 : decode cX9_isPlace 0 = .ok (.iload_n 1, 1) := by decide +kernel
theorem dX9_isPlace_1 : decode cX9_isPlace 1 = .ok (.ifCond .lt 15, 3) := by decide +kernel
theorem dX9_isPlace_4 : decode cX9_isPlace 4 = .ok (.iload_n 1, 1) := by decide +kernel
theorem dX9_isPlace_5 : decode cX9_isPlace 5 = .ok (.aload_n 0, 1) := by decide +kernel
theorem dX9_isPlace_6 : decode cX9_isPlace 6 = .ok (.getfield 48, 3) := by decide +kernel
theorem dX9_isPlace_9 : decode cX9_isPlace 9 = .ok (.if_icmp .ge 7, 3) := by decide +kernel
theorem dX9_isPlace_12 : decode cX9_isPlace 12 = .ok (.iconst 1, 1) := by decide +kernel
theorem dX9_isPlace_13 : decode cX9_isPlace 13 = .ok (.goto 4, 3) := by decide +kernel
theorem dX9_isPlace_16 : decode cX9_isPlace 16 = .ok (.iconst 0, 1) := by decide +kernel
theorem dX9_isPlace_17 : decode cX9_isPlace 17 = .ok (.ireturn, 1) := by decide +kernel
theorem dX9_isGiven_0 : decode cX9_isGiven 0 = .ok (.iload_n 0, 1) := by decide +kernel
theorem dX9_isGiven_1 : decode cX9_isGiven 1 = .ok (.iconst (-1), 1) := by decide +kernel
theorem dX9_isGiven_2 : decode cX9_isGiven 2 = .ok (.if_icmp .lt 14, 3) := by decide +kernel
theorem dX9_isGiven_5 : decode cX9_isGiven 5 = .ok (.iload_n 0, 1) := by decide +kernel
theorem dX9_isGiven_6 : decode cX9_isGiven 6 = .ok (.sipush 1000, 3) := by decide +kernel
theorem dX9_isGiven_9 : decode cX9_isGiven 9 = .ok (.if_icmp .ge 7, 3) := by decide +kernel
theorem dX9_isGiven_12 : decode cX9_isGiven 12 = .ok (.iconst 1, 1) := by decide +kernel
theorem dX9_isGiven_13 : decode cX9_isGiven 13 = .ok (.goto 4, 3) := by decide +kernel
theorem dX9_isGiven_16 : decode cX9_isGiven 16 = .ok (.iconst 0, 1) := by decide +kernel
theorem dX9_isGiven_17 : decode cX9_isGiven 17 = .ok (.ireturn, 1) := by decide +kernel
theorem dX9_given_0 : decode cX9_given 0 = .ok (.iload_n 0, 1) := by decide +kernel
theorem dX9_given_1 : decode cX9_given 1 = .ok (.ifCond .ge 7, 3) := by decide +kernel
theorem dX9_given_4 : decode cX9_given 4 = .ok (.iconst 0, 1) := by decide +kernel
theorem dX9_given_5 : decode cX9_given 5 = .ok (.goto 4, 3) := by decide +kernel
theorem dX9_given_8 : decode cX9_given 8 = .ok (.iconst 1, 1) := by decide +kernel
theorem dX9_given_9 : decode cX9_given 9 = .ok (.iload_n 1, 1) := by decide +kernel
theorem dX9_given_10 : decode cX9_given 10 = .ok (.ifCond .ge 7, 3) := by decide +kernel
theorem dX9_given_13 : decode cX9_given 13 = .ok (.iconst 0, 1) := by decide +kernel
theorem dX9_given_14 : decode cX9_given 14 = .ok (.goto 4, 3) := by decide +kernel
theorem dX9_given_17 : decode cX9_given 17 = .ok (.iconst 1, 1) := by decide +kernel
theorem dX9_given_18 : decode cX9_given 18 = .ok (.iadd, 1) := by decide +kernel
theorem dX9_given_19 : decode cX9_given 19 = .ok (.iload_n 2, 1) := by decide +kernel
theorem dX9_given_20 : decode cX9_given 20 = .ok (.ifCond .ge 7, 3) := by decide +kernel
theorem dX9_given_23 : decode cX9_given 23 = .ok (.iconst 0, 1) := by decide +kernel
theorem dX9_given_24 : decode cX9_given 24 = .ok (.goto 4, 3) := by decide +kernel
theorem dX9_given_27 : decode cX9_given 27 = .ok (.iconst 1, 1) := by decide +kernel
theorem dX9_given_28 : decode cX9_given 28 = .ok (.iadd, 1) := by decide +kernel
theorem dX9_given_29 : decode cX9_given 29 = .ok (.iload_n 3, 1) := by decide +kernel
theorem dX9_given_30 : decode cX9_given 30 = .ok (.ifCond .ge 7, 3) := by decide +kernel
theorem dX9_given_33 : decode cX9_given 33 = .ok (.iconst 0, 1) := by decide +kernel
theorem dX9_given_34 : decode cX9_given 34 = .ok (.goto 4, 3) := by decide +kernel
theorem dX9_given_37 : decode cX9_given 37 = .ok (.iconst 1, 1) := by decide +kernel
theorem dX9_given_38 : decode cX9_given 38 = .ok (.iadd, 1) := by decide +kernel
theorem dX9_given_39 : decode cX9_given 39 = .ok (.ireturn, 1) := by decide +kernel
theorem dX9_comeTo_0 : decode cX9_comeTo 0 = .ok (.iload_n 2, 1) := by decide +kernel
theorem dX9_comeTo_1 : decode cX9_comeTo 1 = .ok (.ifCond .lt 41, 3) := by decide +kernel
theorem dX9_comeTo_4 : decode cX9_comeTo 4 = .ok (.aload_n 0, 1) := by decide +kernel
theorem dX9_comeTo_5 : decode cX9_comeTo 5 = .ok (.getfield 7, 3) := by decide +kernel
theorem dX9_comeTo_8 : decode cX9_comeTo 8 = .ok (.sipush 400, 3) := by decide +kernel
theorem dX9_comeTo_11 : decode cX9_comeTo 11 = .ok (.iload_n 1, 1) := by decide +kernel
theorem dX9_comeTo_12 : decode cX9_comeTo 12 = .ok (.imul, 1) := by decide +kernel
theorem dX9_comeTo_13 : decode cX9_comeTo 13 = .ok (.aload_n 0, 1) := by decide +kernel
theorem dX9_comeTo_14 : decode cX9_comeTo 14 = .ok (.getfield 13, 3) := by decide +kernel
theorem dX9_comeTo_17 : decode cX9_comeTo 17 = .ok (.iload_n 1, 1) := by decide +kernel
theorem dX9_comeTo_18 : decode cX9_comeTo 18 = .ok (.iaload, 1) := by decide +kernel
theorem dX9_comeTo_19 : decode cX9_comeTo 19 = .ok (.iadd, 1) := by decide +kernel
theorem dX9_comeTo_20 : decode cX9_comeTo 20 = .ok (.iload_n 2, 1) := by decide +kernel
theorem dX9_comeTo_21 : decode cX9_comeTo 21 = .ok (.iastore, 1) := by decide +kernel
theorem dX9_comeTo_22 : decode cX9_comeTo 22 = .ok (.aload_n 0, 1) := by decide +kernel
theorem dX9_comeTo_23 : decode cX9_comeTo 23 = .ok (.getfield 13, 3) := by decide +kernel
theorem dX9_comeTo_26 : decode cX9_comeTo 26 = .ok (.iload_n 1, 1) := by decide +kernel
theorem dX9_comeTo_27 : decode cX9_comeTo 27 = .ok (.dup2, 1) := by decide +kernel
theorem dX9_comeTo_28 : decode cX9_comeTo 28 = .ok (.iaload, 1) := by decide +kernel
theorem dX9_comeTo_29 : decode cX9_comeTo 29 = .ok (.iconst 1, 1) := by decide +kernel
theorem dX9_comeTo_30 : decode cX9_comeTo 30 = .ok (.iadd, 1) := by decide +kernel
theorem dX9_comeTo_31 : decode cX9_comeTo 31 = .ok (.iastore, 1) := by decide +kernel
theorem dX9_comeTo_32 : decode cX9_comeTo 32 = .ok (.aload_n 0, 1) := by decide +kernel
theorem dX9_comeTo_33 : decode cX9_comeTo 33 = .ok (.dup, 1) := by decide +kernel
theorem dX9_comeTo_34 : decode cX9_comeTo 34 = .ok (.getfield 52, 3) := by decide +kernel
theorem dX9_comeTo_37 : decode cX9_comeTo 37 = .ok (.iconst 1, 1) := by decide +kernel
theorem dX9_comeTo_38 : decode cX9_comeTo 38 = .ok (.iadd, 1) := by decide +kernel
theorem dX9_comeTo_39 : decode cX9_comeTo 39 = .ok (.putfield 52, 3) := by decide +kernel
theorem dX9_comeTo_42 : decode cX9_comeTo 42 = .ok (.return_, 1) := by decide +kernel
theorem dX9_add_0 : decode cX9_add 0 = .ok (.iload_n 1, 1) := by decide +kernel
theorem dX9_add_1 : decode cX9_add 1 = .ok (.invokestatic 55, 3) := by decide +kernel
theorem dX9_add_4 : decode cX9_add 4 = .ok (.ifCond .eq 53, 3) := by decide +kernel
theorem dX9_add_7 : decode cX9_add 7 = .ok (.iload_n 2, 1) := by decide +kernel
theorem dX9_add_8 : decode cX9_add 8 = .ok (.invokestatic 59, 3) := by decide +kernel
theorem dX9_add_11 : decode cX9_add 11 = .ok (.ifCond .eq 46, 3) := by decide +kernel
theorem dX9_add_14 : decode cX9_add 14 = .ok (.iload_n 3, 1) := by decide +kernel
theorem dX9_add_15 : decode cX9_add 15 = .ok (.invokestatic 59, 3) := by decide +kernel
theorem dX9_add_18 : decode cX9_add 18 = .ok (.ifCond .eq 39, 3) := by decide +kernel
theorem dX9_add_21 : decode cX9_add 21 = .ok (.iload 4, 2) := by decide +kernel
theorem dX9_add_23 : decode cX9_add 23 = .ok (.invokestatic 59, 3) := by decide +kernel
theorem dX9_add_26 : decode cX9_add 26 = .ok (.ifCond .eq 31, 3) := by decide +kernel
theorem dX9_add_29 : decode cX9_add 29 = .ok (.iload 5, 2) := by decide +kernel
theorem dX9_add_31 : decode cX9_add 31 = .ok (.invokestatic 59, 3) := by decide +kernel
theorem dX9_add_34 : decode cX9_add 34 = .ok (.ifCond .eq 23, 3) := by decide +kernel
theorem dX9_add_37 : decode cX9_add 37 = .ok (.aload_n 0, 1) := by decide +kernel
theorem dX9_add_38 : decode cX9_add 38 = .ok (.getfield 52, 3) := by decide +kernel
theorem dX9_add_41 : decode cX9_add 41 = .ok (.iload_n 2, 1) := by decide +kernel
theorem dX9_add_42 : decode cX9_add 42 = .ok (.iload_n 3, 1) := by decide +kernel
theorem dX9_add_43 : decode cX9_add 43 = .ok (.iload 4, 2) := by decide +kernel
theorem dX9_add_45 : decode cX9_add 45 = .ok (.iload 5, 2) := by decide +kernel
theorem dX9_add_47 : decode cX9_add 47 = .ok (.invokestatic 62, 3) := by decide +kernel
theorem dX9_add_50 : decode cX9_add 50 = .ok (.iadd, 1) := by decide +kernel
theorem dX9_add_51 : decode cX9_add 51 = .ok (.sipush 400, 3) := by decide +kernel
theorem dX9_add_54 : decode cX9_add 54 = .ok (.if_icmp .le 5, 3) := by decide +kernel
theorem dX9_add_57 : decode cX9_add 57 = .ok (.iconst (-1), 1) := by decide +kernel
theorem dX9_add_58 : decode cX9_add 58 = .ok (.ireturn, 1) := by decide +kernel
theorem dX9_add_59 : decode cX9_add 59 = .ok (.aload_n 0, 1) := by decide +kernel
theorem dX9_add_60 : decode cX9_add 60 = .ok (.iload_n 1, 1) := by decide +kernel
theorem dX9_add_61 : decode cX9_add 61 = .ok (.iload_n 2, 1) := by decide +kernel
theorem dX9_add_62 : decode cX9_add 62 = .ok (.invokevirtual 66, 3) := by decide +kernel
theorem dX9_add_65 : decode cX9_add 65 = .ok (.aload_n 0, 1) := by decide +kernel
theorem dX9_add_66 : decode cX9_add 66 = .ok (.iload_n 1, 1) := by decide +kernel
theorem dX9_add_67 : decode cX9_add 67 = .ok (.iload_n 3, 1) := by decide +kernel
theorem dX9_add_68 : decode cX9_add 68 = .ok (.invokevirtual 66, 3) := by decide +kernel
theorem dX9_add_71 : decode cX9_add 71 = .ok (.aload_n 0, 1) := by decide +kernel
theorem dX9_add_72 : decode cX9_add 72 = .ok (.iload_n 1, 1) := by decide +kernel
theorem dX9_add_73 : decode cX9_add 73 = .ok (.iload 4, 2) := by decide +kernel
theorem dX9_add_75 : decode cX9_add 75 = .ok (.invokevirtual 66, 3) := by decide +kernel
theorem dX9_add_78 : decode cX9_add 78 = .ok (.aload_n 0, 1) := by decide +kernel
theorem dX9_add_79 : decode cX9_add 79 = .ok (.iload_n 1, 1) := by decide +kernel
theorem dX9_add_80 : decode cX9_add 80 = .ok (.iload 5, 2) := by decide +kernel
theorem dX9_add_82 : decode cX9_add 82 = .ok (.invokevirtual 66, 3) := by decide +kernel
theorem dX9_add_85 : decode cX9_add 85 = .ok (.aload_n 0, 1) := by decide +kernel
theorem dX9_add_86 : decode cX9_add 86 = .ok (.getfield 13, 3) := by decide +kernel
theorem dX9_add_89 : decode cX9_add 89 = .ok (.iload_n 1, 1) := by decide +kernel
theorem dX9_add_90 : decode cX9_add 90 = .ok (.iaload, 1) := by decide +kernel
theorem dX9_add_91 : decode cX9_add 91 = .ok (.ireturn, 1) := by decide +kernel
theorem dX9_cut_0 : decode cX9_cut 0 = .ok (.iload_n 1, 1) := by decide +kernel
theorem dX9_cut_1 : decode cX9_cut 1 = .ok (.invokestatic 55, 3) := by decide +kernel
theorem dX9_cut_4 : decode cX9_cut 4 = .ok (.ifCond .eq 17, 3) := by decide +kernel
theorem dX9_cut_7 : decode cX9_cut 7 = .ok (.iload_n 2, 1) := by decide +kernel
theorem dX9_cut_8 : decode cX9_cut 8 = .ok (.ifCond .lt 13, 3) := by decide +kernel
theorem dX9_cut_11 : decode cX9_cut 11 = .ok (.iload_n 2, 1) := by decide +kernel
theorem dX9_cut_12 : decode cX9_cut 12 = .ok (.aload_n 0, 1) := by decide +kernel
theorem dX9_cut_13 : decode cX9_cut 13 = .ok (.getfield 13, 3) := by decide +kernel
theorem dX9_cut_16 : decode cX9_cut 16 = .ok (.iload_n 1, 1) := by decide +kernel
theorem dX9_cut_17 : decode cX9_cut 17 = .ok (.iaload, 1) := by decide +kernel
theorem dX9_cut_18 : decode cX9_cut 18 = .ok (.if_icmp .le 5, 3) := by decide +kernel
theorem dX9_cut_21 : decode cX9_cut 21 = .ok (.iconst (-1), 1) := by decide +kernel
theorem dX9_cut_22 : decode cX9_cut 22 = .ok (.ireturn, 1) := by decide +kernel
theorem dX9_cut_23 : decode cX9_cut 23 = .ok (.aload_n 0, 1) := by decide +kernel
theorem dX9_cut_24 : decode cX9_cut 24 = .ok (.getfield 13, 3) := by decide +kernel
theorem dX9_cut_27 : decode cX9_cut 27 = .ok (.iload_n 1, 1) := by decide +kernel
theorem dX9_cut_28 : decode cX9_cut 28 = .ok (.dup2, 1) := by decide +kernel
theorem dX9_cut_29 : decode cX9_cut 29 = .ok (.iaload, 1) := by decide +kernel
theorem dX9_cut_30 : decode cX9_cut 30 = .ok (.iload_n 2, 1) := by decide +kernel
theorem dX9_cut_31 : decode cX9_cut 31 = .ok (.isub, 1) := by decide +kernel
theorem dX9_cut_32 : decode cX9_cut 32 = .ok (.iastore, 1) := by decide +kernel
theorem dX9_cut_33 : decode cX9_cut 33 = .ok (.aload_n 0, 1) := by decide +kernel
theorem dX9_cut_34 : decode cX9_cut 34 = .ok (.dup, 1) := by decide +kernel
theorem dX9_cut_35 : decode cX9_cut 35 = .ok (.getfield 52, 3) := by decide +kernel
theorem dX9_cut_38 : decode cX9_cut 38 = .ok (.iload_n 2, 1) := by decide +kernel
theorem dX9_cut_39 : decode cX9_cut 39 = .ok (.isub, 1) := by decide +kernel
theorem dX9_cut_40 : decode cX9_cut 40 = .ok (.putfield 52, 3) := by decide +kernel
theorem dX9_cut_43 : decode cX9_cut 43 = .ok (.aload_n 0, 1) := by decide +kernel
theorem dX9_cut_44 : decode cX9_cut 44 = .ok (.getfield 13, 3) := by decide +kernel
theorem dX9_cut_47 : decode cX9_cut 47 = .ok (.iload_n 1, 1) := by decide +kernel
theorem dX9_cut_48 : decode cX9_cut 48 = .ok (.iaload, 1) := by decide +kernel
theorem dX9_cut_49 : decode cX9_cut 49 = .ok (.ireturn, 1) := by decide +kernel
theorem dX9_common0_0 : decode cX9_common0 0 = .ok (.aload_n 0, 1) := by decide +kernel
theorem dX9_common0_1 : decode cX9_common0 1 = .ok (.getfield 26, 3) := by decide +kernel
theorem dX9_common0_4 : decode cX9_common0 4 = .ok (.sipush 408, 3) := by decide +kernel
theorem dX9_common0_7 : decode cX9_common0 7 = .ok (.iload_n 1, 1) := by decide +kernel
theorem dX9_common0_8 : decode cX9_common0 8 = .ok (.imul, 1) := by decide +kernel
theorem dX9_common0_9 : decode cX9_common0 9 = .ok (.iload_n 2, 1) := by decide +kernel
theorem dX9_common0_10 : decode cX9_common0 10 = .ok (.iadd, 1) := by decide +kernel
theorem dX9_common0_11 : decode cX9_common0 11 = .ok (.iaload, 1) := by decide +kernel
theorem dX9_common0_12 : decode cX9_common0 12 = .ok (.ireturn, 1) := by decide +kernel
theorem dX9_toEnd_0 : decode cX9_toEnd 0 = .ok (.aload_n 0, 1) := by decide +kernel
theorem dX9_toEnd_1 : decode cX9_toEnd 1 = .ok (.iload_n 1, 1) := by decide +kernel
theorem dX9_toEnd_2 : decode cX9_toEnd 2 = .ok (.iload_n 1, 1) := by decide +kernel
theorem dX9_toEnd_3 : decode cX9_toEnd 3 = .ok (.invokevirtual 70, 3) := by decide +kernel
theorem dX9_toEnd_6 : decode cX9_toEnd 6 = .ok (.ireturn, 1) := by decide +kernel
theorem dX9_isLess_0 : decode cX9_isLess 0 = .ok (.aload_n 0, 1) := by decide +kernel
theorem dX9_isLess_1 : decode cX9_isLess 1 = .ok (.iload_n 1, 1) := by decide +kernel
theorem dX9_isLess_2 : decode cX9_isLess 2 = .ok (.iload_n 2, 1) := by decide +kernel
theorem dX9_isLess_3 : decode cX9_isLess 3 = .ok (.invokevirtual 70, 3) := by decide +kernel
theorem dX9_isLess_6 : decode cX9_isLess 6 = .ok (.istore_n 3, 1) := by decide +kernel
theorem dX9_isLess_7 : decode cX9_isLess 7 = .ok (.aload_n 0, 1) := by decide +kernel
theorem dX9_isLess_8 : decode cX9_isLess 8 = .ok (.getfield 16, 3) := by decide +kernel
theorem dX9_isLess_11 : decode cX9_isLess 11 = .ok (.iload_n 1, 1) := by decide +kernel
theorem dX9_isLess_12 : decode cX9_isLess 12 = .ok (.iload_n 3, 1) := by decide +kernel
theorem dX9_isLess_13 : decode cX9_isLess 13 = .ok (.iadd, 1) := by decide +kernel
theorem dX9_isLess_14 : decode cX9_isLess 14 = .ok (.iaload, 1) := by decide +kernel
theorem dX9_isLess_15 : decode cX9_isLess 15 = .ok (.istore 4, 2) := by decide +kernel
theorem dX9_isLess_17 : decode cX9_isLess 17 = .ok (.aload_n 0, 1) := by decide +kernel
theorem dX9_isLess_18 : decode cX9_isLess 18 = .ok (.getfield 16, 3) := by decide +kernel
theorem dX9_isLess_21 : decode cX9_isLess 21 = .ok (.iload_n 2, 1) := by decide +kernel
theorem dX9_isLess_22 : decode cX9_isLess 22 = .ok (.iload_n 3, 1) := by decide +kernel
theorem dX9_isLess_23 : decode cX9_isLess 23 = .ok (.iadd, 1) := by decide +kernel
theorem dX9_isLess_24 : decode cX9_isLess 24 = .ok (.iaload, 1) := by decide +kernel
theorem dX9_isLess_25 : decode cX9_isLess 25 = .ok (.istore 5, 2) := by decide +kernel
theorem dX9_isLess_27 : decode cX9_isLess 27 = .ok (.iload 4, 2) := by decide +kernel
theorem dX9_isLess_29 : decode cX9_isLess 29 = .ok (.ifCond .ge 23, 3) := by decide +kernel
theorem dX9_isLess_32 : decode cX9_isLess 32 = .ok (.iload 5, 2) := by decide +kernel
theorem dX9_isLess_34 : decode cX9_isLess 34 = .ok (.ifCond .ge 18, 3) := by decide +kernel
theorem dX9_isLess_37 : decode cX9_isLess 37 = .ok (.iload 4, 2) := by decide +kernel
theorem dX9_isLess_39 : decode cX9_isLess 39 = .ok (.iload 5, 2) := by decide +kernel
theorem dX9_isLess_41 : decode cX9_isLess 41 = .ok (.if_icmp .le 7, 3) := by decide +kernel
theorem dX9_isLess_44 : decode cX9_isLess 44 = .ok (.iconst 1, 1) := by decide +kernel
theorem dX9_isLess_45 : decode cX9_isLess 45 = .ok (.goto 19, 3) := by decide +kernel
theorem dX9_isLess_48 : decode cX9_isLess 48 = .ok (.iconst 0, 1) := by decide +kernel
theorem dX9_isLess_49 : decode cX9_isLess 49 = .ok (.goto 15, 3) := by decide +kernel
theorem dX9_isLess_52 : decode cX9_isLess 52 = .ok (.iload 4, 2) := by decide +kernel
theorem dX9_isLess_54 : decode cX9_isLess 54 = .ok (.iload 5, 2) := by decide +kernel
theorem dX9_isLess_56 : decode cX9_isLess 56 = .ok (.if_icmp .ge 7, 3) := by decide +kernel
theorem dX9_isLess_59 : decode cX9_isLess 59 = .ok (.iconst 1, 1) := by decide +kernel
theorem dX9_isLess_60 : decode cX9_isLess 60 = .ok (.goto 4, 3) := by decide +kernel
theorem dX9_isLess_63 : decode cX9_isLess 63 = .ok (.iconst 0, 1) := by decide +kernel
theorem dX9_isLess_64 : decode cX9_isLess 64 = .ok (.ireturn, 1) := by decide +kernel
theorem dX9_build_0 : decode cX9_build 0 = .ok (.aload_n 0, 1) := by decide +kernel
theorem dX9_build_1 : decode cX9_build 1 = .ok (.iconst 0, 1) := by decide +kernel
theorem dX9_build_2 : decode cX9_build 2 = .ok (.putfield 48, 3) := by decide +kernel
theorem dX9_build_5 : decode cX9_build 5 = .ok (.iconst 0, 1) := by decide +kernel
theorem dX9_build_6 : decode cX9_build 6 = .ok (.istore_n 1, 1) := by decide +kernel
theorem dX9_build_7 : decode cX9_build 7 = .ok (.iload_n 1, 1) := by decide +kernel
theorem dX9_build_8 : decode cX9_build 8 = .ok (.bipush 8, 2) := by decide +kernel
theorem dX9_build_10 : decode cX9_build 10 = .ok (.if_icmp .ge 120, 3) := by decide +kernel
theorem dX9_build_13 : decode cX9_build 13 = .ok (.aload_n 0, 1) := by decide +kernel
theorem dX9_build_14 : decode cX9_build 14 = .ok (.getfield 22, 3) := by decide +kernel
theorem dX9_build_17 : decode cX9_build 17 = .ok (.iload_n 1, 1) := by decide +kernel
theorem dX9_build_18 : decode cX9_build 18 = .ok (.aload_n 0, 1) := by decide +kernel
theorem dX9_build_19 : decode cX9_build 19 = .ok (.getfield 48, 3) := by decide +kernel
theorem dX9_build_22 : decode cX9_build 22 = .ok (.iastore, 1) := by decide +kernel
theorem dX9_build_23 : decode cX9_build 23 = .ok (.iconst 0, 1) := by decide +kernel
theorem dX9_build_24 : decode cX9_build 24 = .ok (.istore_n 2, 1) := by decide +kernel
theorem dX9_build_25 : decode cX9_build 25 = .ok (.iload_n 2, 1) := by decide +kernel
theorem dX9_build_26 : decode cX9_build 26 = .ok (.aload_n 0, 1) := by decide +kernel
theorem dX9_build_27 : decode cX9_build 27 = .ok (.getfield 13, 3) := by decide +kernel
theorem dX9_build_30 : decode cX9_build 30 = .ok (.iload_n 1, 1) := by decide +kernel
theorem dX9_build_31 : decode cX9_build 31 = .ok (.iaload, 1) := by decide +kernel
theorem dX9_build_32 : decode cX9_build 32 = .ok (.if_icmp .ge 50, 3) := by decide +kernel
theorem dX9_build_35 : decode cX9_build 35 = .ok (.aload_n 0, 1) := by decide +kernel
theorem dX9_build_36 : decode cX9_build 36 = .ok (.getfield 16, 3) := by decide +kernel
theorem dX9_build_39 : decode cX9_build 39 = .ok (.aload_n 0, 1) := by decide +kernel
theorem dX9_build_40 : decode cX9_build 40 = .ok (.getfield 48, 3) := by decide +kernel
theorem dX9_build_43 : decode cX9_build 43 = .ok (.aload_n 0, 1) := by decide +kernel
theorem dX9_build_44 : decode cX9_build 44 = .ok (.getfield 7, 3) := by decide +kernel
theorem dX9_build_47 : decode cX9_build 47 = .ok (.sipush 400, 3) := by decide +kernel
theorem dX9_build_50 : decode cX9_build 50 = .ok (.iload_n 1, 1) := by decide +kernel
theorem dX9_build_51 : decode cX9_build 51 = .ok (.imul, 1) := by decide +kernel
theorem dX9_build_52 : decode cX9_build 52 = .ok (.iload_n 2, 1) := by decide +kernel
theorem dX9_build_53 : decode cX9_build 53 = .ok (.iadd, 1) := by decide +kernel
theorem dX9_build_54 : decode cX9_build 54 = .ok (.iaload, 1) := by decide +kernel
theorem dX9_build_55 : decode cX9_build 55 = .ok (.iastore, 1) := by decide +kernel
theorem dX9_build_56 : decode cX9_build 56 = .ok (.aload_n 0, 1) := by decide +kernel
theorem dX9_build_57 : decode cX9_build 57 = .ok (.getfield 19, 3) := by decide +kernel
theorem dX9_build_60 : decode cX9_build 60 = .ok (.aload_n 0, 1) := by decide +kernel
theorem dX9_build_61 : decode cX9_build 61 = .ok (.getfield 48, 3) := by decide +kernel
theorem dX9_build_64 : decode cX9_build 64 = .ok (.iload_n 1, 1) := by decide +kernel
theorem dX9_build_65 : decode cX9_build 65 = .ok (.iastore, 1) := by decide +kernel
theorem dX9_build_66 : decode cX9_build 66 = .ok (.aload_n 0, 1) := by decide +kernel
theorem dX9_build_67 : decode cX9_build 67 = .ok (.dup, 1) := by decide +kernel
theorem dX9_build_68 : decode cX9_build 68 = .ok (.getfield 48, 3) := by decide +kernel
theorem dX9_build_71 : decode cX9_build 71 = .ok (.iconst 1, 1) := by decide +kernel
theorem dX9_build_72 : decode cX9_build 72 = .ok (.iadd, 1) := by decide +kernel
theorem dX9_build_73 : decode cX9_build 73 = .ok (.putfield 48, 3) := by decide +kernel
theorem dX9_build_76 : decode cX9_build 76 = .ok (.iinc 2 1, 3) := by decide +kernel
theorem dX9_build_79 : decode cX9_build 79 = .ok (.goto (-54), 3) := by decide +kernel
theorem dX9_build_82 : decode cX9_build 82 = .ok (.aload_n 0, 1) := by decide +kernel
theorem dX9_build_83 : decode cX9_build 83 = .ok (.getfield 13, 3) := by decide +kernel
theorem dX9_build_86 : decode cX9_build 86 = .ok (.iload_n 1, 1) := by decide +kernel
theorem dX9_build_87 : decode cX9_build 87 = .ok (.iaload, 1) := by decide +kernel
theorem dX9_build_88 : decode cX9_build 88 = .ok (.ifCond .le 36, 3) := by decide +kernel
theorem dX9_build_91 : decode cX9_build 91 = .ok (.aload_n 0, 1) := by decide +kernel
theorem dX9_build_92 : decode cX9_build 92 = .ok (.getfield 16, 3) := by decide +kernel
theorem dX9_build_95 : decode cX9_build 95 = .ok (.aload_n 0, 1) := by decide +kernel
theorem dX9_build_96 : decode cX9_build 96 = .ok (.getfield 48, 3) := by decide +kernel
theorem dX9_build_99 : decode cX9_build 99 = .ok (.bipush (-2), 2) := by decide +kernel
theorem dX9_build_101 : decode cX9_build 101 = .ok (.iload_n 1, 1) := by decide +kernel
theorem dX9_build_102 : decode cX9_build 102 = .ok (.isub, 1) := by decide +kernel
theorem dX9_build_103 : decode cX9_build 103 = .ok (.iastore, 1) := by decide +kernel
theorem dX9_build_104 : decode cX9_build 104 = .ok (.aload_n 0, 1) := by decide +kernel
theorem dX9_build_105 : decode cX9_build 105 = .ok (.getfield 19, 3) := by decide +kernel
theorem dX9_build_108 : decode cX9_build 108 = .ok (.aload_n 0, 1) := by decide +kernel
theorem dX9_build_109 : decode cX9_build 109 = .ok (.getfield 48, 3) := by decide +kernel
theorem dX9_build_112 : decode cX9_build 112 = .ok (.iload_n 1, 1) := by decide +kernel
theorem dX9_build_113 : decode cX9_build 113 = .ok (.iastore, 1) := by decide +kernel
theorem dX9_build_114 : decode cX9_build 114 = .ok (.aload_n 0, 1) := by decide +kernel
theorem dX9_build_115 : decode cX9_build 115 = .ok (.dup, 1) := by decide +kernel
theorem dX9_build_116 : decode cX9_build 116 = .ok (.getfield 48, 3) := by decide +kernel
theorem dX9_build_119 : decode cX9_build 119 = .ok (.iconst 1, 1) := by decide +kernel
theorem dX9_build_120 : decode cX9_build 120 = .ok (.iadd, 1) := by decide +kernel
theorem dX9_build_121 : decode cX9_build 121 = .ok (.putfield 48, 3) := by decide +kernel
theorem dX9_build_124 : decode cX9_build 124 = .ok (.iinc 1 1, 3) := by decide +kernel
theorem dX9_build_127 : decode cX9_build 127 = .ok (.goto (-120), 3) := by decide +kernel
theorem dX9_build_130 : decode cX9_build 130 = .ok (.aload_n 0, 1) := by decide +kernel
theorem dX9_build_131 : decode cX9_build 131 = .ok (.getfield 48, 3) := by decide +kernel
theorem dX9_build_134 : decode cX9_build 134 = .ok (.iconst 1, 1) := by decide +kernel
theorem dX9_build_135 : decode cX9_build 135 = .ok (.isub, 1) := by decide +kernel
theorem dX9_build_136 : decode cX9_build 136 = .ok (.istore_n 1, 1) := by decide +kernel
theorem dX9_build_137 : decode cX9_build 137 = .ok (.iload_n 1, 1) := by decide +kernel
theorem dX9_build_138 : decode cX9_build 138 = .ok (.ifCond .lt 94, 3) := by decide +kernel
theorem dX9_build_141 : decode cX9_build 141 = .ok (.aload_n 0, 1) := by decide +kernel
theorem dX9_build_142 : decode cX9_build 142 = .ok (.getfield 48, 3) := by decide +kernel
theorem dX9_build_145 : decode cX9_build 145 = .ok (.iconst 1, 1) := by decide +kernel
theorem dX9_build_146 : decode cX9_build 146 = .ok (.isub, 1) := by decide +kernel
theorem dX9_build_147 : decode cX9_build 147 = .ok (.istore_n 2, 1) := by decide +kernel
theorem dX9_build_148 : decode cX9_build 148 = .ok (.iload_n 2, 1) := by decide +kernel
theorem dX9_build_149 : decode cX9_build 149 = .ok (.ifCond .lt 77, 3) := by decide +kernel
theorem dX9_build_152 : decode cX9_build 152 = .ok (.aload_n 0, 1) := by decide +kernel
theorem dX9_build_153 : decode cX9_build 153 = .ok (.getfield 16, 3) := by decide +kernel
theorem dX9_build_156 : decode cX9_build 156 = .ok (.iload_n 1, 1) := by decide +kernel
theorem dX9_build_157 : decode cX9_build 157 = .ok (.iaload, 1) := by decide +kernel
theorem dX9_build_158 : decode cX9_build 158 = .ok (.ifCond .lt 22, 3) := by decide +kernel
theorem dX9_build_161 : decode cX9_build 161 = .ok (.aload_n 0, 1) := by decide +kernel
theorem dX9_build_162 : decode cX9_build 162 = .ok (.getfield 16, 3) := by decide +kernel
theorem dX9_build_165 : decode cX9_build 165 = .ok (.iload_n 1, 1) := by decide +kernel
theorem dX9_build_166 : decode cX9_build 166 = .ok (.iaload, 1) := by decide +kernel
theorem dX9_build_167 : decode cX9_build 167 = .ok (.aload_n 0, 1) := by decide +kernel
theorem dX9_build_168 : decode cX9_build 168 = .ok (.getfield 16, 3) := by decide +kernel
theorem dX9_build_171 : decode cX9_build 171 = .ok (.iload_n 2, 1) := by decide +kernel
theorem dX9_build_172 : decode cX9_build 172 = .ok (.iaload, 1) := by decide +kernel
theorem dX9_build_173 : decode cX9_build 173 = .ok (.if_icmp .ne 7, 3) := by decide +kernel
theorem dX9_build_176 : decode cX9_build 176 = .ok (.iconst 1, 1) := by decide +kernel
theorem dX9_build_177 : decode cX9_build 177 = .ok (.goto 4, 3) := by decide +kernel
theorem dX9_build_180 : decode cX9_build 180 = .ok (.iconst 0, 1) := by decide +kernel
theorem dX9_build_181 : decode cX9_build 181 = .ok (.istore_n 3, 1) := by decide +kernel
theorem dX9_build_182 : decode cX9_build 182 = .ok (.aload_n 0, 1) := by decide +kernel
theorem dX9_build_183 : decode cX9_build 183 = .ok (.getfield 26, 3) := by decide +kernel
theorem dX9_build_186 : decode cX9_build 186 = .ok (.sipush 408, 3) := by decide +kernel
theorem dX9_build_189 : decode cX9_build 189 = .ok (.iload_n 1, 1) := by decide +kernel
theorem dX9_build_190 : decode cX9_build 190 = .ok (.imul, 1) := by decide +kernel
theorem dX9_build_191 : decode cX9_build 191 = .ok (.iload_n 2, 1) := by decide +kernel
theorem dX9_build_192 : decode cX9_build 192 = .ok (.iadd, 1) := by decide +kernel
theorem dX9_build_193 : decode cX9_build 193 = .ok (.iload_n 3, 1) := by decide +kernel
theorem dX9_build_194 : decode cX9_build 194 = .ok (.ifCond .eq 24, 3) := by decide +kernel
theorem dX9_build_197 : decode cX9_build 197 = .ok (.iconst 1, 1) := by decide +kernel
theorem dX9_build_198 : decode cX9_build 198 = .ok (.aload_n 0, 1) := by decide +kernel
theorem dX9_build_199 : decode cX9_build 199 = .ok (.getfield 26, 3) := by decide +kernel
theorem dX9_build_202 : decode cX9_build 202 = .ok (.sipush 408, 3) := by decide +kernel
theorem dX9_build_205 : decode cX9_build 205 = .ok (.iload_n 1, 1) := by decide +kernel
theorem dX9_build_206 : decode cX9_build 206 = .ok (.iconst 1, 1) := by decide +kernel
theorem dX9_build_207 : decode cX9_build 207 = .ok (.iadd, 1) := by decide +kernel
theorem dX9_build_208 : decode cX9_build 208 = .ok (.imul, 1) := by decide +kernel
theorem dX9_build_209 : decode cX9_build 209 = .ok (.iload_n 2, 1) := by decide +kernel
theorem dX9_build_210 : decode cX9_build 210 = .ok (.iadd, 1) := by decide +kernel
theorem dX9_build_211 : decode cX9_build 211 = .ok (.iconst 1, 1) := by decide +kernel
theorem dX9_build_212 : decode cX9_build 212 = .ok (.iadd, 1) := by decide +kernel
theorem dX9_build_213 : decode cX9_build 213 = .ok (.iaload, 1) := by decide +kernel
theorem dX9_build_214 : decode cX9_build 214 = .ok (.iadd, 1) := by decide +kernel
theorem dX9_build_215 : decode cX9_build 215 = .ok (.goto 4, 3) := by decide +kernel
theorem dX9_build_218 : decode cX9_build 218 = .ok (.iconst 0, 1) := by decide +kernel
theorem dX9_build_219 : decode cX9_build 219 = .ok (.iastore, 1) := by decide +kernel
theorem dX9_build_220 : decode cX9_build 220 = .ok (.iinc 2 (-1), 3) := by decide +kernel
theorem dX9_build_223 : decode cX9_build 223 = .ok (.goto (-75), 3) := by decide +kernel
theorem dX9_build_226 : decode cX9_build 226 = .ok (.iinc 1 (-1), 3) := by decide +kernel
theorem dX9_build_229 : decode cX9_build 229 = .ok (.goto (-92), 3) := by decide +kernel
theorem dX9_build_232 : decode cX9_build 232 = .ok (.iconst 0, 1) := by decide +kernel
theorem dX9_build_233 : decode cX9_build 233 = .ok (.istore_n 1, 1) := by decide +kernel
theorem dX9_build_234 : decode cX9_build 234 = .ok (.iload_n 1, 1) := by decide +kernel
theorem dX9_build_235 : decode cX9_build 235 = .ok (.aload_n 0, 1) := by decide +kernel
theorem dX9_build_236 : decode cX9_build 236 = .ok (.getfield 48, 3) := by decide +kernel
theorem dX9_build_239 : decode cX9_build 239 = .ok (.if_icmp .ge 58, 3) := by decide +kernel
theorem dX9_build_242 : decode cX9_build 242 = .ok (.iload_n 1, 1) := by decide +kernel
theorem dX9_build_243 : decode cX9_build 243 = .ok (.istore_n 2, 1) := by decide +kernel
theorem dX9_build_244 : decode cX9_build 244 = .ok (.iload_n 2, 1) := by decide +kernel
theorem dX9_build_245 : decode cX9_build 245 = .ok (.ifCond .le 39, 3) := by decide +kernel
theorem dX9_build_248 : decode cX9_build 248 = .ok (.aload_n 0, 1) := by decide +kernel
theorem dX9_build_249 : decode cX9_build 249 = .ok (.iload_n 1, 1) := by decide +kernel
theorem dX9_build_250 : decode cX9_build 250 = .ok (.aload_n 0, 1) := by decide +kernel
theorem dX9_build_251 : decode cX9_build 251 = .ok (.getfield 29, 3) := by decide +kernel
theorem dX9_build_254 : decode cX9_build 254 = .ok (.iload_n 2, 1) := by decide +kernel
theorem dX9_build_255 : decode cX9_build 255 = .ok (.iconst 1, 1) := by decide +kernel
theorem dX9_build_256 : decode cX9_build 256 = .ok (.isub, 1) := by decide +kernel
theorem dX9_build_257 : decode cX9_build 257 = .ok (.iaload, 1) := by decide +kernel
theorem dX9_build_258 : decode cX9_build 258 = .ok (.invokevirtual 74, 3) := by decide +kernel
theorem dX9_build_261 : decode cX9_build 261 = .ok (.ifCond .eq 23, 3) := by decide +kernel
theorem dX9_build_264 : decode cX9_build 264 = .ok (.aload_n 0, 1) := by decide +kernel
theorem dX9_build_265 : decode cX9_build 265 = .ok (.getfield 29, 3) := by decide +kernel
theorem dX9_build_268 : decode cX9_build 268 = .ok (.iload_n 2, 1) := by decide +kernel
theorem dX9_build_269 : decode cX9_build 269 = .ok (.aload_n 0, 1) := by decide +kernel
theorem dX9_build_270 : decode cX9_build 270 = .ok (.getfield 29, 3) := by decide +kernel
theorem dX9_build_273 : decode cX9_build 273 = .ok (.iload_n 2, 1) := by decide +kernel
theorem dX9_build_274 : decode cX9_build 274 = .ok (.iconst 1, 1) := by decide +kernel
theorem dX9_build_275 : decode cX9_build 275 = .ok (.isub, 1) := by decide +kernel
theorem dX9_build_276 : decode cX9_build 276 = .ok (.iaload, 1) := by decide +kernel
theorem dX9_build_277 : decode cX9_build 277 = .ok (.iastore, 1) := by decide +kernel
theorem dX9_build_278 : decode cX9_build 278 = .ok (.iinc 2 (-1), 3) := by decide +kernel
theorem dX9_build_281 : decode cX9_build 281 = .ok (.goto (-37), 3) := by decide +kernel
theorem dX9_build_284 : decode cX9_build 284 = .ok (.aload_n 0, 1) := by decide +kernel
theorem dX9_build_285 : decode cX9_build 285 = .ok (.getfield 29, 3) := by decide +kernel
theorem dX9_build_288 : decode cX9_build 288 = .ok (.iload_n 2, 1) := by decide +kernel
theorem dX9_build_289 : decode cX9_build 289 = .ok (.iload_n 1, 1) := by decide +kernel
theorem dX9_build_290 : decode cX9_build 290 = .ok (.iastore, 1) := by decide +kernel
theorem dX9_build_291 : decode cX9_build 291 = .ok (.iinc 1 1, 3) := by decide +kernel
theorem dX9_build_294 : decode cX9_build 294 = .ok (.goto (-60), 3) := by decide +kernel
theorem dX9_build_297 : decode cX9_build 297 = .ok (.iconst 0, 1) := by decide +kernel
theorem dX9_build_298 : decode cX9_build 298 = .ok (.istore_n 1, 1) := by decide +kernel
theorem dX9_build_299 : decode cX9_build 299 = .ok (.iload_n 1, 1) := by decide +kernel
theorem dX9_build_300 : decode cX9_build 300 = .ok (.aload_n 0, 1) := by decide +kernel
theorem dX9_build_301 : decode cX9_build 301 = .ok (.getfield 48, 3) := by decide +kernel
theorem dX9_build_304 : decode cX9_build 304 = .ok (.if_icmp .ge 33, 3) := by decide +kernel
theorem dX9_build_307 : decode cX9_build 307 = .ok (.aload_n 0, 1) := by decide +kernel
theorem dX9_build_308 : decode cX9_build 308 = .ok (.getfield 32, 3) := by decide +kernel
theorem dX9_build_311 : decode cX9_build 311 = .ok (.aload_n 0, 1) := by decide +kernel
theorem dX9_build_312 : decode cX9_build 312 = .ok (.getfield 29, 3) := by decide +kernel
theorem dX9_build_315 : decode cX9_build 315 = .ok (.iload_n 1, 1) := by decide +kernel
theorem dX9_build_316 : decode cX9_build 316 = .ok (.iaload, 1) := by decide +kernel
theorem dX9_build_317 : decode cX9_build 317 = .ok (.iload_n 1, 1) := by decide +kernel
theorem dX9_build_318 : decode cX9_build 318 = .ok (.iastore, 1) := by decide +kernel
theorem dX9_build_319 : decode cX9_build 319 = .ok (.aload_n 0, 1) := by decide +kernel
theorem dX9_build_320 : decode cX9_build 320 = .ok (.getfield 35, 3) := by decide +kernel
theorem dX9_build_323 : decode cX9_build 323 = .ok (.iload_n 1, 1) := by decide +kernel
theorem dX9_build_324 : decode cX9_build 324 = .ok (.aload_n 0, 1) := by decide +kernel
theorem dX9_build_325 : decode cX9_build 325 = .ok (.getfield 29, 3) := by decide +kernel
theorem dX9_build_328 : decode cX9_build 328 = .ok (.iload_n 1, 1) := by decide +kernel
theorem dX9_build_329 : decode cX9_build 329 = .ok (.iaload, 1) := by decide +kernel
theorem dX9_build_330 : decode cX9_build 330 = .ok (.iastore, 1) := by decide +kernel
theorem dX9_build_331 : decode cX9_build 331 = .ok (.iinc 1 1, 3) := by decide +kernel
theorem dX9_build_334 : decode cX9_build 334 = .ok (.goto (-35), 3) := by decide +kernel
theorem dX9_build_337 : decode cX9_build 337 = .ok (.aload_n 0, 1) := by decide +kernel
theorem dX9_build_338 : decode cX9_build 338 = .ok (.getfield 48, 3) := by decide +kernel
theorem dX9_build_341 : decode cX9_build 341 = .ok (.ireturn, 1) := by decide +kernel
theorem dX9_sign_0 : decode cX9_sign 0 = .ok (.aload_n 0, 1) := by decide +kernel
theorem dX9_sign_1 : decode cX9_sign 1 = .ok (.iload_n 1, 1) := by decide +kernel
theorem dX9_sign_2 : decode cX9_sign 2 = .ok (.invokevirtual 78, 3) := by decide +kernel
theorem dX9_sign_5 : decode cX9_sign 5 = .ok (.ifCond .eq 12, 3) := by decide +kernel
theorem dX9_sign_8 : decode cX9_sign 8 = .ok (.aload_n 0, 1) := by decide +kernel
theorem dX9_sign_9 : decode cX9_sign 9 = .ok (.getfield 16, 3) := by decide +kernel
theorem dX9_sign_12 : decode cX9_sign 12 = .ok (.iload_n 1, 1) := by decide +kernel
theorem dX9_sign_13 : decode cX9_sign 13 = .ok (.iaload, 1) := by decide +kernel
theorem dX9_sign_14 : decode cX9_sign 14 = .ok (.goto 4, 3) := by decide +kernel
theorem dX9_sign_17 : decode cX9_sign 17 = .ok (.iconst (-1), 1) := by decide +kernel
theorem dX9_sign_18 : decode cX9_sign 18 = .ok (.ireturn, 1) := by decide +kernel
theorem dX9_text_0 : decode cX9_text 0 = .ok (.aload_n 0, 1) := by decide +kernel
theorem dX9_text_1 : decode cX9_text 1 = .ok (.iload_n 1, 1) := by decide +kernel
theorem dX9_text_2 : decode cX9_text 2 = .ok (.invokevirtual 78, 3) := by decide +kernel
theorem dX9_text_5 : decode cX9_text 5 = .ok (.ifCond .eq 12, 3) := by decide +kernel
theorem dX9_text_8 : decode cX9_text 8 = .ok (.iload_n 2, 1) := by decide +kernel
theorem dX9_text_9 : decode cX9_text 9 = .ok (.ifCond .lt 8, 3) := by decide +kernel
theorem dX9_text_12 : decode cX9_text 12 = .ok (.iload_n 2, 1) := by decide +kernel
theorem dX9_text_13 : decode cX9_text 13 = .ok (.iconst 1, 1) := by decide +kernel
theorem dX9_text_14 : decode cX9_text 14 = .ok (.if_icmp .le 5, 3) := by decide +kernel
theorem dX9_text_17 : decode cX9_text 17 = .ok (.iconst (-1), 1) := by decide +kernel
theorem dX9_text_18 : decode cX9_text 18 = .ok (.ireturn, 1) := by decide +kernel
theorem dX9_text_19 : decode cX9_text 19 = .ok (.iload_n 2, 1) := by decide +kernel
theorem dX9_text_20 : decode cX9_text 20 = .ok (.ifCond .ne 12, 3) := by decide +kernel
theorem dX9_text_23 : decode cX9_text 23 = .ok (.aload_n 0, 1) := by decide +kernel
theorem dX9_text_24 : decode cX9_text 24 = .ok (.getfield 19, 3) := by decide +kernel
theorem dX9_text_27 : decode cX9_text 27 = .ok (.iload_n 1, 1) := by decide +kernel
theorem dX9_text_28 : decode cX9_text 28 = .ok (.iaload, 1) := by decide +kernel
theorem dX9_text_29 : decode cX9_text 29 = .ok (.goto 16, 3) := by decide +kernel
theorem dX9_text_32 : decode cX9_text 32 = .ok (.iload_n 1, 1) := by decide +kernel
theorem dX9_text_33 : decode cX9_text 33 = .ok (.aload_n 0, 1) := by decide +kernel
theorem dX9_text_34 : decode cX9_text 34 = .ok (.getfield 22, 3) := by decide +kernel
theorem dX9_text_37 : decode cX9_text 37 = .ok (.aload_n 0, 1) := by decide +kernel
theorem dX9_text_38 : decode cX9_text 38 = .ok (.getfield 19, 3) := by decide +kernel
theorem dX9_text_41 : decode cX9_text 41 = .ok (.iload_n 1, 1) := by decide +kernel
theorem dX9_text_42 : decode cX9_text 42 = .ok (.iaload, 1) := by decide +kernel
theorem dX9_text_43 : decode cX9_text 43 = .ok (.iaload, 1) := by decide +kernel
theorem dX9_text_44 : decode cX9_text 44 = .ok (.isub, 1) := by decide +kernel
theorem dX9_text_45 : decode cX9_text 45 = .ok (.ireturn, 1) := by decide +kernel
theorem dX9_at_0 : decode cX9_at 0 = .ok (.aload_n 0, 1) := by decide +kernel
theorem dX9_at_1 : decode cX9_at 1 = .ok (.iload_n 1, 1) := by decide +kernel
theorem dX9_at_2 : decode cX9_at 2 = .ok (.invokevirtual 78, 3) := by decide +kernel
theorem dX9_at_5 : decode cX9_at 5 = .ok (.ifCond .eq 12, 3) := by decide +kernel
theorem dX9_at_8 : decode cX9_at 8 = .ok (.aload_n 0, 1) := by decide +kernel
theorem dX9_at_9 : decode cX9_at 9 = .ok (.getfield 29, 3) := by decide +kernel
theorem dX9_at_12 : decode cX9_at 12 = .ok (.iload_n 1, 1) := by decide +kernel
theorem dX9_at_13 : decode cX9_at 13 = .ok (.iaload, 1) := by decide +kernel
theorem dX9_at_14 : decode cX9_at 14 = .ok (.goto 4, 3) := by decide +kernel
theorem dX9_at_17 : decode cX9_at 17 = .ok (.iconst (-1), 1) := by decide +kernel
theorem dX9_at_18 : decode cX9_at 18 = .ok (.ireturn, 1) := by decide +kernel
theorem dX9_rank_0 : decode cX9_rank 0 = .ok (.aload_n 0, 1) := by decide +kernel
theorem dX9_rank_1 : decode cX9_rank 1 = .ok (.iload_n 1, 1) := by decide +kernel
theorem dX9_rank_2 : decode cX9_rank 2 = .ok (.invokevirtual 78, 3) := by decide +kernel
theorem dX9_rank_5 : decode cX9_rank 5 = .ok (.ifCond .eq 12, 3) := by decide +kernel
theorem dX9_rank_8 : decode cX9_rank 8 = .ok (.aload_n 0, 1) := by decide +kernel
theorem dX9_rank_9 : decode cX9_rank 9 = .ok (.getfield 32, 3) := by decide +kernel
theorem dX9_rank_12 : decode cX9_rank 12 = .ok (.iload_n 1, 1) := by decide +kernel
theorem dX9_rank_13 : decode cX9_rank 13 = .ok (.iaload, 1) := by decide +kernel
theorem dX9_rank_14 : decode cX9_rank 14 = .ok (.goto 4, 3) := by decide +kernel
theorem dX9_rank_17 : decode cX9_rank 17 = .ok (.iconst (-1), 1) := by decide +kernel
theorem dX9_rank_18 : decode cX9_rank 18 = .ok (.ireturn, 1) := by decide +kernel
theorem dX9_beside0_0 : decode cX9_beside0 0 = .ok (.iload_n 1, 1) := by decide +kernel
theorem dX9_beside0_1 : decode cX9_beside0 1 = .ok (.ifCond .ne 7, 3) := by decide +kernel
theorem dX9_beside0_4 : decode cX9_beside0 4 = .ok (.iconst 0, 1) := by decide +kernel
theorem dX9_beside0_5 : decode cX9_beside0 5 = .ok (.goto 21, 3) := by decide +kernel
theorem dX9_beside0_8 : decode cX9_beside0 8 = .ok (.aload_n 0, 1) := by decide +kernel
theorem dX9_beside0_9 : decode cX9_beside0 9 = .ok (.aload_n 0, 1) := by decide +kernel
theorem dX9_beside0_10 : decode cX9_beside0 10 = .ok (.getfield 29, 3) := by decide +kernel
theorem dX9_beside0_13 : decode cX9_beside0 13 = .ok (.iload_n 1, 1) := by decide +kernel
theorem dX9_beside0_14 : decode cX9_beside0 14 = .ok (.iaload, 1) := by decide +kernel
theorem dX9_beside0_15 : decode cX9_beside0 15 = .ok (.aload_n 0, 1) := by decide +kernel
theorem dX9_beside0_16 : decode cX9_beside0 16 = .ok (.getfield 29, 3) := by decide +kernel
theorem dX9_beside0_19 : decode cX9_beside0 19 = .ok (.iload_n 1, 1) := by decide +kernel
theorem dX9_beside0_20 : decode cX9_beside0 20 = .ok (.iconst 1, 1) := by decide +kernel
theorem dX9_beside0_21 : decode cX9_beside0 21 = .ok (.isub, 1) := by decide +kernel
theorem dX9_beside0_22 : decode cX9_beside0 22 = .ok (.iaload, 1) := by decide +kernel
theorem dX9_beside0_23 : decode cX9_beside0 23 = .ok (.invokevirtual 70, 3) := by decide +kernel
theorem dX9_beside0_26 : decode cX9_beside0 26 = .ok (.ireturn, 1) := by decide +kernel
theorem dX9_beside_0 : decode cX9_beside 0 = .ok (.aload_n 0, 1) := by decide +kernel
theorem dX9_beside_1 : decode cX9_beside 1 = .ok (.iload_n 1, 1) := by decide +kernel
theorem dX9_beside_2 : decode cX9_beside 2 = .ok (.invokevirtual 78, 3) := by decide +kernel
theorem dX9_beside_5 : decode cX9_beside 5 = .ok (.ifCond .eq 11, 3) := by decide +kernel
theorem dX9_beside_8 : decode cX9_beside 8 = .ok (.aload_n 0, 1) := by decide +kernel
theorem dX9_beside_9 : decode cX9_beside 9 = .ok (.iload_n 1, 1) := by decide +kernel
theorem dX9_beside_10 : decode cX9_beside 10 = .ok (.invokevirtual 81, 3) := by decide +kernel
theorem dX9_beside_13 : decode cX9_beside 13 = .ok (.goto 4, 3) := by decide +kernel
theorem dX9_beside_16 : decode cX9_beside 16 = .ok (.iconst (-1), 1) := by decide +kernel
theorem dX9_beside_17 : decode cX9_beside 17 = .ok (.ireturn, 1) := by decide +kernel
theorem dX9_common_0 : decode cX9_common 0 = .ok (.aload_n 0, 1) := by decide +kernel
theorem dX9_common_1 : decode cX9_common 1 = .ok (.iload_n 1, 1) := by decide +kernel
theorem dX9_common_2 : decode cX9_common 2 = .ok (.invokevirtual 78, 3) := by decide +kernel
theorem dX9_common_5 : decode cX9_common 5 = .ok (.ifCond .eq 20, 3) := by decide +kernel
theorem dX9_common_8 : decode cX9_common 8 = .ok (.aload_n 0, 1) := by decide +kernel
theorem dX9_common_9 : decode cX9_common 9 = .ok (.iload_n 2, 1) := by decide +kernel
theorem dX9_common_10 : decode cX9_common 10 = .ok (.invokevirtual 78, 3) := by decide +kernel
theorem dX9_common_13 : decode cX9_common 13 = .ok (.ifCond .eq 12, 3) := by decide +kernel
theorem dX9_common_16 : decode cX9_common 16 = .ok (.aload_n 0, 1) := by decide +kernel
theorem dX9_common_17 : decode cX9_common 17 = .ok (.iload_n 1, 1) := by decide +kernel
theorem dX9_common_18 : decode cX9_common 18 = .ok (.iload_n 2, 1) := by decide +kernel
theorem dX9_common_19 : decode cX9_common 19 = .ok (.invokevirtual 70, 3) := by decide +kernel
theorem dX9_common_22 : decode cX9_common 22 = .ok (.goto 4, 3) := by decide +kernel
theorem dX9_common_25 : decode cX9_common 25 = .ok (.iconst (-1), 1) := by decide +kernel
theorem dX9_common_26 : decode cX9_common 26 = .ok (.ireturn, 1) := by decide +kernel
theorem dX9_copyOf_0 : decode cX9_copyOf 0 = .ok (.iconst (-1), 1) := by decide +kernel
theorem dX9_copyOf_1 : decode cX9_copyOf 1 = .ok (.istore_n 2, 1) := by decide +kernel
theorem dX9_copyOf_2 : decode cX9_copyOf 2 = .ok (.iconst 0, 1) := by decide +kernel
theorem dX9_copyOf_3 : decode cX9_copyOf 3 = .ok (.istore_n 3, 1) := by decide +kernel
theorem dX9_copyOf_4 : decode cX9_copyOf 4 = .ok (.iload_n 3, 1) := by decide +kernel
theorem dX9_copyOf_5 : decode cX9_copyOf 5 = .ok (.iload_n 1, 1) := by decide +kernel
theorem dX9_copyOf_6 : decode cX9_copyOf 6 = .ok (.if_icmp .ge 43, 3) := by decide +kernel
theorem dX9_copyOf_9 : decode cX9_copyOf 9 = .ok (.aload_n 0, 1) := by decide +kernel
theorem dX9_copyOf_10 : decode cX9_copyOf 10 = .ok (.iload_n 1, 1) := by decide +kernel
theorem dX9_copyOf_11 : decode cX9_copyOf 11 = .ok (.iload_n 3, 1) := by decide +kernel
theorem dX9_copyOf_12 : decode cX9_copyOf 12 = .ok (.invokevirtual 70, 3) := by decide +kernel
theorem dX9_copyOf_15 : decode cX9_copyOf 15 = .ok (.istore 4, 2) := by decide +kernel
theorem dX9_copyOf_17 : decode cX9_copyOf 17 = .ok (.iload 4, 2) := by decide +kernel
theorem dX9_copyOf_19 : decode cX9_copyOf 19 = .ok (.ifCond .le 22, 3) := by decide +kernel
theorem dX9_copyOf_22 : decode cX9_copyOf 22 = .ok (.iload_n 2, 1) := by decide +kernel
theorem dX9_copyOf_23 : decode cX9_copyOf 23 = .ok (.ifCond .lt 14, 3) := by decide +kernel
theorem dX9_copyOf_26 : decode cX9_copyOf 26 = .ok (.iload 4, 2) := by decide +kernel
theorem dX9_copyOf_28 : decode cX9_copyOf 28 = .ok (.aload_n 0, 1) := by decide +kernel
theorem dX9_copyOf_29 : decode cX9_copyOf 29 = .ok (.iload_n 1, 1) := by decide +kernel
theorem dX9_copyOf_30 : decode cX9_copyOf 30 = .ok (.iload_n 2, 1) := by decide +kernel
theorem dX9_copyOf_31 : decode cX9_copyOf 31 = .ok (.invokevirtual 70, 3) := by decide +kernel
theorem dX9_copyOf_34 : decode cX9_copyOf 34 = .ok (.if_icmp .le 7, 3) := by decide +kernel
theorem dX9_copyOf_37 : decode cX9_copyOf 37 = .ok (.iload_n 3, 1) := by decide +kernel
theorem dX9_copyOf_38 : decode cX9_copyOf 38 = .ok (.goto 4, 3) := by decide +kernel
theorem dX9_copyOf_41 : decode cX9_copyOf 41 = .ok (.iload_n 2, 1) := by decide +kernel
theorem dX9_copyOf_42 : decode cX9_copyOf 42 = .ok (.istore_n 2, 1) := by decide +kernel
theorem dX9_copyOf_43 : decode cX9_copyOf 43 = .ok (.iinc 3 1, 3) := by decide +kernel
theorem dX9_copyOf_46 : decode cX9_copyOf 46 = .ok (.goto (-42), 3) := by decide +kernel
theorem dX9_copyOf_49 : decode cX9_copyOf 49 = .ok (.iload_n 2, 1) := by decide +kernel
theorem dX9_copyOf_50 : decode cX9_copyOf 50 = .ok (.ireturn, 1) := by decide +kernel
theorem dX9_copy_0 : decode cX9_copy 0 = .ok (.aload_n 0, 1) := by decide +kernel
theorem dX9_copy_1 : decode cX9_copy 1 = .ok (.iload_n 1, 1) := by decide +kernel
theorem dX9_copy_2 : decode cX9_copy 2 = .ok (.invokevirtual 78, 3) := by decide +kernel
theorem dX9_copy_5 : decode cX9_copy 5 = .ok (.ifCond .eq 12, 3) := by decide +kernel
theorem dX9_copy_8 : decode cX9_copy 8 = .ok (.iload_n 2, 1) := by decide +kernel
theorem dX9_copy_9 : decode cX9_copy 9 = .ok (.ifCond .lt 8, 3) := by decide +kernel
theorem dX9_copy_12 : decode cX9_copy 12 = .ok (.iload_n 2, 1) := by decide +kernel
theorem dX9_copy_13 : decode cX9_copy 13 = .ok (.iconst 2, 1) := by decide +kernel
theorem dX9_copy_14 : decode cX9_copy 14 = .ok (.if_icmp .le 5, 3) := by decide +kernel
theorem dX9_copy_17 : decode cX9_copy 17 = .ok (.iconst (-1), 1) := by decide +kernel
theorem dX9_copy_18 : decode cX9_copy 18 = .ok (.ireturn, 1) := by decide +kernel
theorem dX9_copy_19 : decode cX9_copy 19 = .ok (.aload_n 0, 1) := by decide +kernel
theorem dX9_copy_20 : decode cX9_copy 20 = .ok (.iload_n 1, 1) := by decide +kernel
theorem dX9_copy_21 : decode cX9_copy 21 = .ok (.invokevirtual 85, 3) := by decide +kernel
theorem dX9_copy_24 : decode cX9_copy 24 = .ok (.istore_n 3, 1) := by decide +kernel
theorem dX9_copy_25 : decode cX9_copy 25 = .ok (.iload_n 2, 1) := by decide +kernel
theorem dX9_copy_26 : decode cX9_copy 26 = .ok (.iconst 2, 1) := by decide +kernel
theorem dX9_copy_27 : decode cX9_copy 27 = .ok (.if_icmp .ge 26, 3) := by decide +kernel
theorem dX9_copy_30 : decode cX9_copy 30 = .ok (.iload_n 2, 1) := by decide +kernel
theorem dX9_copy_31 : decode cX9_copy 31 = .ok (.ifCond .ne 7, 3) := by decide +kernel
theorem dX9_copy_34 : decode cX9_copy 34 = .ok (.iload_n 3, 1) := by decide +kernel
theorem dX9_copy_35 : decode cX9_copy 35 = .ok (.goto 17, 3) := by decide +kernel
theorem dX9_copy_38 : decode cX9_copy 38 = .ok (.iload_n 3, 1) := by decide +kernel
theorem dX9_copy_39 : decode cX9_copy 39 = .ok (.ifCond .ge 7, 3) := by decide +kernel
theorem dX9_copy_42 : decode cX9_copy 42 = .ok (.iconst 0, 1) := by decide +kernel
theorem dX9_copy_43 : decode cX9_copy 43 = .ok (.goto 9, 3) := by decide +kernel
theorem dX9_copy_46 : decode cX9_copy 46 = .ok (.aload_n 0, 1) := by decide +kernel
theorem dX9_copy_47 : decode cX9_copy 47 = .ok (.iload_n 1, 1) := by decide +kernel
theorem dX9_copy_48 : decode cX9_copy 48 = .ok (.iload_n 3, 1) := by decide +kernel
theorem dX9_copy_49 : decode cX9_copy 49 = .ok (.invokevirtual 70, 3) := by decide +kernel
theorem dX9_copy_52 : decode cX9_copy 52 = .ok (.ireturn, 1) := by decide +kernel
theorem dX9_copy_53 : decode cX9_copy 53 = .ok (.iconst 0, 1) := by decide +kernel
theorem dX9_copy_54 : decode cX9_copy 54 = .ok (.istore 4, 2) := by decide +kernel
theorem dX9_copy_56 : decode cX9_copy 56 = .ok (.iload_n 1, 1) := by decide +kernel
theorem dX9_copy_57 : decode cX9_copy 57 = .ok (.istore 5, 2) := by decide +kernel
theorem dX9_copy_59 : decode cX9_copy 59 = .ok (.aload_n 0, 1) := by decide +kernel
theorem dX9_copy_60 : decode cX9_copy 60 = .ok (.getfield 16, 3) := by decide +kernel
theorem dX9_copy_63 : decode cX9_copy 63 = .ok (.iload 5, 2) := by decide +kernel
theorem dX9_copy_65 : decode cX9_copy 65 = .ok (.iaload, 1) := by decide +kernel
theorem dX9_copy_66 : decode cX9_copy 66 = .ok (.ifCond .lt 39, 3) := by decide +kernel
theorem dX9_copy_69 : decode cX9_copy 69 = .ok (.aload_n 0, 1) := by decide +kernel
theorem dX9_copy_70 : decode cX9_copy 70 = .ok (.iload 5, 2) := by decide +kernel
theorem dX9_copy_72 : decode cX9_copy 72 = .ok (.invokevirtual 85, 3) := by decide +kernel
theorem dX9_copy_75 : decode cX9_copy 75 = .ok (.istore 6, 2) := by decide +kernel
theorem dX9_copy_77 : decode cX9_copy 77 = .ok (.iload 5, 2) := by decide +kernel
theorem dX9_copy_79 : decode cX9_copy 79 = .ok (.iload 6, 2) := by decide +kernel
theorem dX9_copy_81 : decode cX9_copy 81 = .ok (.ifCond .ge 7, 3) := by decide +kernel
theorem dX9_copy_84 : decode cX9_copy 84 = .ok (.iconst 1, 1) := by decide +kernel
theorem dX9_copy_85 : decode cX9_copy 85 = .ok (.goto 11, 3) := by decide +kernel
theorem dX9_copy_88 : decode cX9_copy 88 = .ok (.aload_n 0, 1) := by decide +kernel
theorem dX9_copy_89 : decode cX9_copy 89 = .ok (.iload 5, 2) := by decide +kernel
theorem dX9_copy_91 : decode cX9_copy 91 = .ok (.iload 6, 2) := by decide +kernel
theorem dX9_copy_93 : decode cX9_copy 93 = .ok (.invokevirtual 70, 3) := by decide +kernel
theorem dX9_copy_96 : decode cX9_copy 96 = .ok (.iadd, 1) := by decide +kernel
theorem dX9_copy_97 : decode cX9_copy 97 = .ok (.istore 5, 2) := by decide +kernel
theorem dX9_copy_99 : decode cX9_copy 99 = .ok (.iinc 4 1, 3) := by decide +kernel
theorem dX9_copy_102 : decode cX9_copy 102 = .ok (.goto (-43), 3) := by decide +kernel
theorem dX9_copy_105 : decode cX9_copy 105 = .ok (.iload 4, 2) := by decide +kernel
theorem dX9_copy_107 : decode cX9_copy 107 = .ok (.ireturn, 1) := by decide +kernel
theorem dX9_pattern_0 : decode cX9_pattern 0 = .ok (.iload_n 1, 1) := by decide +kernel
theorem dX9_pattern_1 : decode cX9_pattern 1 = .ok (.invokestatic 59, 3) := by decide +kernel
theorem dX9_pattern_4 : decode cX9_pattern 4 = .ok (.ifCond .eq 43, 3) := by decide +kernel
theorem dX9_pattern_7 : decode cX9_pattern 7 = .ok (.iload_n 2, 1) := by decide +kernel
theorem dX9_pattern_8 : decode cX9_pattern 8 = .ok (.invokestatic 59, 3) := by decide +kernel
theorem dX9_pattern_11 : decode cX9_pattern 11 = .ok (.ifCond .eq 36, 3) := by decide +kernel
theorem dX9_pattern_14 : decode cX9_pattern 14 = .ok (.iload_n 3, 1) := by decide +kernel
theorem dX9_pattern_15 : decode cX9_pattern 15 = .ok (.invokestatic 59, 3) := by decide +kernel
theorem dX9_pattern_18 : decode cX9_pattern 18 = .ok (.ifCond .eq 29, 3) := by decide +kernel
theorem dX9_pattern_21 : decode cX9_pattern 21 = .ok (.iload 4, 2) := by decide +kernel
theorem dX9_pattern_23 : decode cX9_pattern 23 = .ok (.invokestatic 59, 3) := by decide +kernel
theorem dX9_pattern_26 : decode cX9_pattern 26 = .ok (.ifCond .eq 21, 3) := by decide +kernel
theorem dX9_pattern_29 : decode cX9_pattern 29 = .ok (.aload_n 0, 1) := by decide +kernel
theorem dX9_pattern_30 : decode cX9_pattern 30 = .ok (.getfield 88, 3) := by decide +kernel
theorem dX9_pattern_33 : decode cX9_pattern 33 = .ok (.iload_n 1, 1) := by decide +kernel
theorem dX9_pattern_34 : decode cX9_pattern 34 = .ok (.iload_n 2, 1) := by decide +kernel
theorem dX9_pattern_35 : decode cX9_pattern 35 = .ok (.iload_n 3, 1) := by decide +kernel
theorem dX9_pattern_36 : decode cX9_pattern 36 = .ok (.iload 4, 2) := by decide +kernel
theorem dX9_pattern_38 : decode cX9_pattern 38 = .ok (.invokestatic 62, 3) := by decide +kernel
theorem dX9_pattern_41 : decode cX9_pattern 41 = .ok (.iadd, 1) := by decide +kernel
theorem dX9_pattern_42 : decode cX9_pattern 42 = .ok (.bipush 40, 2) := by decide +kernel
theorem dX9_pattern_44 : decode cX9_pattern 44 = .ok (.if_icmp .le 5, 3) := by decide +kernel
theorem dX9_pattern_47 : decode cX9_pattern 47 = .ok (.iconst (-1), 1) := by decide +kernel
theorem dX9_pattern_48 : decode cX9_pattern 48 = .ok (.ireturn, 1) := by decide +kernel
theorem dX9_pattern_49 : decode cX9_pattern 49 = .ok (.iconst 0, 1) := by decide +kernel
theorem dX9_pattern_50 : decode cX9_pattern 50 = .ok (.istore 5, 2) := by decide +kernel
theorem dX9_pattern_52 : decode cX9_pattern 52 = .ok (.iload 5, 2) := by decide +kernel
theorem dX9_pattern_54 : decode cX9_pattern 54 = .ok (.iconst 4, 1) := by decide +kernel
theorem dX9_pattern_55 : decode cX9_pattern 55 = .ok (.if_icmp .ge 68, 3) := by decide +kernel
theorem dX9_pattern_58 : decode cX9_pattern 58 = .ok (.iload 5, 2) := by decide +kernel
theorem dX9_pattern_60 : decode cX9_pattern 60 = .ok (.ifCond .ne 7, 3) := by decide +kernel
theorem dX9_pattern_63 : decode cX9_pattern 63 = .ok (.iload_n 1, 1) := by decide +kernel
theorem dX9_pattern_64 : decode cX9_pattern 64 = .ok (.goto 25, 3) := by decide +kernel
theorem dX9_pattern_67 : decode cX9_pattern 67 = .ok (.iload 5, 2) := by decide +kernel
theorem dX9_pattern_69 : decode cX9_pattern 69 = .ok (.iconst 1, 1) := by decide +kernel
theorem dX9_pattern_70 : decode cX9_pattern 70 = .ok (.if_icmp .ne 7, 3) := by decide +kernel
theorem dX9_pattern_73 : decode cX9_pattern 73 = .ok (.iload_n 2, 1) := by decide +kernel
theorem dX9_pattern_74 : decode cX9_pattern 74 = .ok (.goto 15, 3) := by decide +kernel
theorem dX9_pattern_77 : decode cX9_pattern 77 = .ok (.iload 5, 2) := by decide +kernel
theorem dX9_pattern_79 : decode cX9_pattern 79 = .ok (.iconst 2, 1) := by decide +kernel
theorem dX9_pattern_80 : decode cX9_pattern 80 = .ok (.if_icmp .ne 7, 3) := by decide +kernel
theorem dX9_pattern_83 : decode cX9_pattern 83 = .ok (.iload_n 3, 1) := by decide +kernel
theorem dX9_pattern_84 : decode cX9_pattern 84 = .ok (.goto 5, 3) := by decide +kernel
theorem dX9_pattern_87 : decode cX9_pattern 87 = .ok (.iload 4, 2) := by decide +kernel
theorem dX9_pattern_89 : decode cX9_pattern 89 = .ok (.istore 6, 2) := by decide +kernel
theorem dX9_pattern_91 : decode cX9_pattern 91 = .ok (.iload 6, 2) := by decide +kernel
theorem dX9_pattern_93 : decode cX9_pattern 93 = .ok (.ifCond .lt 24, 3) := by decide +kernel
theorem dX9_pattern_96 : decode cX9_pattern 96 = .ok (.aload_n 0, 1) := by decide +kernel
theorem dX9_pattern_97 : decode cX9_pattern 97 = .ok (.getfield 38, 3) := by decide +kernel
theorem dX9_pattern_100 : decode cX9_pattern 100 = .ok (.aload_n 0, 1) := by decide +kernel
theorem dX9_pattern_101 : decode cX9_pattern 101 = .ok (.getfield 88, 3) := by decide +kernel
theorem dX9_pattern_104 : decode cX9_pattern 104 = .ok (.iload 6, 2) := by decide +kernel
theorem dX9_pattern_106 : decode cX9_pattern 106 = .ok (.iastore, 1) := by decide +kernel
theorem dX9_pattern_107 : decode cX9_pattern 107 = .ok (.aload_n 0, 1) := by decide +kernel
theorem dX9_pattern_108 : decode cX9_pattern 108 = .ok (.dup, 1) := by decide +kernel
theorem dX9_pattern_109 : decode cX9_pattern 109 = .ok (.getfield 88, 3) := by decide +kernel
theorem dX9_pattern_112 : decode cX9_pattern 112 = .ok (.iconst 1, 1) := by decide +kernel
theorem dX9_pattern_113 : decode cX9_pattern 113 = .ok (.iadd, 1) := by decide +kernel
theorem dX9_pattern_114 : decode cX9_pattern 114 = .ok (.putfield 88, 3) := by decide +kernel
theorem dX9_pattern_117 : decode cX9_pattern 117 = .ok (.iinc 5 1, 3) := by decide +kernel
theorem dX9_pattern_120 : decode cX9_pattern 120 = .ok (.goto (-68), 3) := by decide +kernel
theorem dX9_pattern_123 : decode cX9_pattern 123 = .ok (.aload_n 0, 1) := by decide +kernel
theorem dX9_pattern_124 : decode cX9_pattern 124 = .ok (.getfield 88, 3) := by decide +kernel
theorem dX9_pattern_127 : decode cX9_pattern 127 = .ok (.ireturn, 1) := by decide +kernel
theorem dX9_wipe_0 : decode cX9_wipe 0 = .ok (.aload_n 0, 1) := by decide +kernel
theorem dX9_wipe_1 : decode cX9_wipe 1 = .ok (.getfield 88, 3) := by decide +kernel
theorem dX9_wipe_4 : decode cX9_wipe 4 = .ok (.istore_n 1, 1) := by decide +kernel
theorem dX9_wipe_5 : decode cX9_wipe 5 = .ok (.aload_n 0, 1) := by decide +kernel
theorem dX9_wipe_6 : decode cX9_wipe 6 = .ok (.iconst 0, 1) := by decide +kernel
theorem dX9_wipe_7 : decode cX9_wipe 7 = .ok (.putfield 88, 3) := by decide +kernel
theorem dX9_wipe_10 : decode cX9_wipe 10 = .ok (.iload_n 1, 1) := by decide +kernel
theorem dX9_wipe_11 : decode cX9_wipe 11 = .ok (.ireturn, 1) := by decide +kernel
theorem dX9_matched_0 : decode cX9_matched 0 = .ok (.iconst 0, 1) := by decide +kernel
theorem dX9_matched_1 : decode cX9_matched 1 = .ok (.istore_n 2, 1) := by decide +kernel
theorem dX9_matched_2 : decode cX9_matched 2 = .ok (.iload_n 2, 1) := by decide +kernel
theorem dX9_matched_3 : decode cX9_matched 3 = .ok (.aload_n 0, 1) := by decide +kernel
theorem dX9_matched_4 : decode cX9_matched 4 = .ok (.getfield 88, 3) := by decide +kernel
theorem dX9_matched_7 : decode cX9_matched 7 = .ok (.if_icmp .ge 26, 3) := by decide +kernel
theorem dX9_matched_10 : decode cX9_matched 10 = .ok (.aload_n 0, 1) := by decide +kernel
theorem dX9_matched_11 : decode cX9_matched 11 = .ok (.getfield 16, 3) := by decide +kernel
theorem dX9_matched_14 : decode cX9_matched 14 = .ok (.iload_n 1, 1) := by decide +kernel
theorem dX9_matched_15 : decode cX9_matched 15 = .ok (.iload_n 2, 1) := by decide +kernel
theorem dX9_matched_16 : decode cX9_matched 16 = .ok (.iadd, 1) := by decide +kernel
theorem dX9_matched_17 : decode cX9_matched 17 = .ok (.iaload, 1) := by decide +kernel
theorem dX9_matched_18 : decode cX9_matched 18 = .ok (.aload_n 0, 1) := by decide +kernel
theorem dX9_matched_19 : decode cX9_matched 19 = .ok (.getfield 38, 3) := by decide +kernel
theorem dX9_matched_22 : decode cX9_matched 22 = .ok (.iload_n 2, 1) := by decide +kernel
theorem dX9_matched_23 : decode cX9_matched 23 = .ok (.iaload, 1) := by decide +kernel
theorem dX9_matched_24 : decode cX9_matched 24 = .ok (.if_icmp .ne 9, 3) := by decide +kernel
theorem dX9_matched_27 : decode cX9_matched 27 = .ok (.iinc 2 1, 3) := by decide +kernel
theorem dX9_matched_30 : decode cX9_matched 30 = .ok (.goto (-28), 3) := by decide +kernel
theorem dX9_matched_33 : decode cX9_matched 33 = .ok (.iload_n 2, 1) := by decide +kernel
theorem dX9_matched_34 : decode cX9_matched 34 = .ok (.ireturn, 1) := by decide +kernel
theorem dX9_find_0 : decode cX9_find 0 = .ok (.iload_n 1, 1) := by decide +kernel
theorem dX9_find_1 : decode cX9_find 1 = .ok (.ifCond .lt 8, 3) := by decide +kernel
theorem dX9_find_4 : decode cX9_find 4 = .ok (.iload_n 1, 1) := by decide +kernel
theorem dX9_find_5 : decode cX9_find 5 = .ok (.iconst 5, 1) := by decide +kernel
theorem dX9_find_6 : decode cX9_find 6 = .ok (.if_icmp .le 5, 3) := by decide +kernel
theorem dX9_find_9 : decode cX9_find 9 = .ok (.iconst (-1), 1) := by decide +kernel
theorem dX9_find_10 : decode cX9_find 10 = .ok (.ireturn, 1) := by decide +kernel
theorem dX9_find_11 : decode cX9_find 11 = .ok (.iconst 0, 1) := by decide +kernel
theorem dX9_find_12 : decode cX9_find 12 = .ok (.istore_n 2, 1) := by decide +kernel
theorem dX9_find_13 : decode cX9_find 13 = .ok (.iconst 0, 1) := by decide +kernel
theorem dX9_find_14 : decode cX9_find 14 = .ok (.istore_n 3, 1) := by decide +kernel
theorem dX9_find_15 : decode cX9_find 15 = .ok (.iconst 0, 1) := by decide +kernel
theorem dX9_find_16 : decode cX9_find 16 = .ok (.istore 4, 2) := by decide +kernel
theorem dX9_find_18 : decode cX9_find 18 = .ok (.iconst (-1), 1) := by decide +kernel
theorem dX9_find_19 : decode cX9_find 19 = .ok (.istore 5, 2) := by decide +kernel
theorem dX9_find_21 : decode cX9_find 21 = .ok (.iconst (-1), 1) := by decide +kernel
theorem dX9_find_22 : decode cX9_find 22 = .ok (.istore 6, 2) := by decide +kernel
theorem dX9_find_24 : decode cX9_find 24 = .ok (.iconst 0, 1) := by decide +kernel
theorem dX9_find_25 : decode cX9_find 25 = .ok (.istore 7, 2) := by decide +kernel
theorem dX9_find_27 : decode cX9_find 27 = .ok (.iconst 0, 1) := by decide +kernel
theorem dX9_find_28 : decode cX9_find 28 = .ok (.istore 8, 2) := by decide +kernel
theorem dX9_find_30 : decode cX9_find 30 = .ok (.iconst 0, 1) := by decide +kernel
theorem dX9_find_31 : decode cX9_find 31 = .ok (.istore 9, 2) := by decide +kernel
theorem dX9_find_33 : decode cX9_find 33 = .ok (.iload 9, 2) := by decide +kernel
theorem dX9_find_35 : decode cX9_find 35 = .ok (.aload_n 0, 1) := by decide +kernel
theorem dX9_find_36 : decode cX9_find 36 = .ok (.getfield 48, 3) := by decide +kernel
theorem dX9_find_39 : decode cX9_find 39 = .ok (.if_icmp .ge 133, 3) := by decide +kernel
theorem dX9_find_42 : decode cX9_find 42 = .ok (.aload_n 0, 1) := by decide +kernel
theorem dX9_find_43 : decode cX9_find 43 = .ok (.iload 9, 2) := by decide +kernel
theorem dX9_find_45 : decode cX9_find 45 = .ok (.invokevirtual 91, 3) := by decide +kernel
theorem dX9_find_48 : decode cX9_find 48 = .ok (.istore 10, 2) := by decide +kernel
theorem dX9_find_50 : decode cX9_find 50 = .ok (.iload 10, 2) := by decide +kernel
theorem dX9_find_52 : decode cX9_find 52 = .ok (.iload 7, 2) := by decide +kernel
theorem dX9_find_54 : decode cX9_find 54 = .ok (.if_icmp .le 8, 3) := by decide +kernel
theorem dX9_find_57 : decode cX9_find 57 = .ok (.iload 10, 2) := by decide +kernel
theorem dX9_find_59 : decode cX9_find 59 = .ok (.goto 5, 3) := by decide +kernel
theorem dX9_find_62 : decode cX9_find 62 = .ok (.iload 7, 2) := by decide +kernel
theorem dX9_find_64 : decode cX9_find 64 = .ok (.istore 7, 2) := by decide +kernel
theorem dX9_find_66 : decode cX9_find 66 = .ok (.iload 10, 2) := by decide +kernel
theorem dX9_find_68 : decode cX9_find 68 = .ok (.aload_n 0, 1) := by decide +kernel
theorem dX9_find_69 : decode cX9_find 69 = .ok (.getfield 88, 3) := by decide +kernel
theorem dX9_find_72 : decode cX9_find 72 = .ok (.if_icmp .ne 66, 3) := by decide +kernel
theorem dX9_find_75 : decode cX9_find 75 = .ok (.iinc 2 1, 3) := by decide +kernel
theorem dX9_find_78 : decode cX9_find 78 = .ok (.iload 5, 2) := by decide +kernel
theorem dX9_find_80 : decode cX9_find 80 = .ok (.ifCond .ge 8, 3) := by decide +kernel
theorem dX9_find_83 : decode cX9_find 83 = .ok (.iload 9, 2) := by decide +kernel
theorem dX9_find_85 : decode cX9_find 85 = .ok (.goto 5, 3) := by decide +kernel
theorem dX9_find_88 : decode cX9_find 88 = .ok (.iload 5, 2) := by decide +kernel
theorem dX9_find_90 : decode cX9_find 90 = .ok (.istore 5, 2) := by decide +kernel
theorem dX9_find_92 : decode cX9_find 92 = .ok (.iload 9, 2) := by decide +kernel
theorem dX9_find_94 : decode cX9_find 94 = .ok (.istore 6, 2) := by decide +kernel
theorem dX9_find_96 : decode cX9_find 96 = .ok (.iload 4, 2) := by decide +kernel
theorem dX9_find_98 : decode cX9_find 98 = .ok (.iload 8, 2) := by decide +kernel
theorem dX9_find_100 : decode cX9_find 100 = .ok (.aload_n 0, 1) := by decide +kernel
theorem dX9_find_101 : decode cX9_find 101 = .ok (.getfield 19, 3) := by decide +kernel
theorem dX9_find_104 : decode cX9_find 104 = .ok (.iload 9, 2) := by decide +kernel
theorem dX9_find_106 : decode cX9_find 106 = .ok (.iaload, 1) := by decide +kernel
theorem dX9_find_107 : decode cX9_find 107 = .ok (.ishr, 1) := by decide +kernel
theorem dX9_find_108 : decode cX9_find 108 = .ok (.iconst 1, 1) := by decide +kernel
theorem dX9_find_109 : decode cX9_find 109 = .ok (.iand, 1) := by decide +kernel
theorem dX9_find_110 : decode cX9_find 110 = .ok (.ifCond .ne 7, 3) := by decide +kernel
theorem dX9_find_113 : decode cX9_find 113 = .ok (.iconst 1, 1) := by decide +kernel
theorem dX9_find_114 : decode cX9_find 114 = .ok (.goto 4, 3) := by decide +kernel
theorem dX9_find_117 : decode cX9_find 117 = .ok (.iconst 0, 1) := by decide +kernel
theorem dX9_find_118 : decode cX9_find 118 = .ok (.iadd, 1) := by decide +kernel
theorem dX9_find_119 : decode cX9_find 119 = .ok (.istore 4, 2) := by decide +kernel
theorem dX9_find_121 : decode cX9_find 121 = .ok (.iload 8, 2) := by decide +kernel
theorem dX9_find_123 : decode cX9_find 123 = .ok (.iconst 1, 1) := by decide +kernel
theorem dX9_find_124 : decode cX9_find 124 = .ok (.aload_n 0, 1) := by decide +kernel
theorem dX9_find_125 : decode cX9_find 125 = .ok (.getfield 19, 3) := by decide +kernel
theorem dX9_find_128 : decode cX9_find 128 = .ok (.iload 9, 2) := by decide +kernel
theorem dX9_find_130 : decode cX9_find 130 = .ok (.iaload, 1) := by decide +kernel
theorem dX9_find_131 : decode cX9_find 131 = .ok (.ishl, 1) := by decide +kernel
theorem dX9_find_132 : decode cX9_find 132 = .ok (.ior, 1) := by decide +kernel
theorem dX9_find_133 : decode cX9_find 133 = .ok (.istore 8, 2) := by decide +kernel
theorem dX9_find_135 : decode cX9_find 135 = .ok (.goto 31, 3) := by decide +kernel
theorem dX9_find_138 : decode cX9_find 138 = .ok (.iload_n 3, 1) := by decide +kernel
theorem dX9_find_139 : decode cX9_find 139 = .ok (.aload_n 0, 1) := by decide +kernel
theorem dX9_find_140 : decode cX9_find 140 = .ok (.getfield 16, 3) := by decide +kernel
theorem dX9_find_143 : decode cX9_find 143 = .ok (.iload 9, 2) := by decide +kernel
theorem dX9_find_145 : decode cX9_find 145 = .ok (.iload 10, 2) := by decide +kernel
theorem dX9_find_147 : decode cX9_find 147 = .ok (.iadd, 1) := by decide +kernel
theorem dX9_find_148 : decode cX9_find 148 = .ok (.iaload, 1) := by decide +kernel
theorem dX9_find_149 : decode cX9_find 149 = .ok (.aload_n 0, 1) := by decide +kernel
theorem dX9_find_150 : decode cX9_find 150 = .ok (.getfield 38, 3) := by decide +kernel
theorem dX9_find_153 : decode cX9_find 153 = .ok (.iload 10, 2) := by decide +kernel
theorem dX9_find_155 : decode cX9_find 155 = .ok (.iaload, 1) := by decide +kernel
theorem dX9_find_156 : decode cX9_find 156 = .ok (.if_icmp .ge 7, 3) := by decide +kernel
theorem dX9_find_159 : decode cX9_find 159 = .ok (.iconst 1, 1) := by decide +kernel
theorem dX9_find_160 : decode cX9_find 160 = .ok (.goto 4, 3) := by decide +kernel
theorem dX9_find_163 : decode cX9_find 163 = .ok (.iconst 0, 1) := by decide +kernel
theorem dX9_find_164 : decode cX9_find 164 = .ok (.iadd, 1) := by decide +kernel
theorem dX9_find_165 : decode cX9_find 165 = .ok (.istore_n 3, 1) := by decide +kernel
theorem dX9_find_166 : decode cX9_find 166 = .ok (.iinc 9 1, 3) := by decide +kernel
theorem dX9_find_169 : decode cX9_find 169 = .ok (.goto (-136), 3) := by decide +kernel
theorem dX9_find_172 : decode cX9_find 172 = .ok (.iload_n 1, 1) := by decide +kernel
theorem dX9_find_173 : decode cX9_find 173 = .ok (.ifCond .ne 7, 3) := by decide +kernel
theorem dX9_find_176 : decode cX9_find 176 = .ok (.iload_n 2, 1) := by decide +kernel
theorem dX9_find_177 : decode cX9_find 177 = .ok (.goto 44, 3) := by decide +kernel
theorem dX9_find_180 : decode cX9_find 180 = .ok (.iload_n 1, 1) := by decide +kernel
theorem dX9_find_181 : decode cX9_find 181 = .ok (.iconst 1, 1) := by decide +kernel
theorem dX9_find_182 : decode cX9_find 182 = .ok (.if_icmp .ne 7, 3) := by decide +kernel
theorem dX9_find_185 : decode cX9_find 185 = .ok (.iload_n 3, 1) := by decide +kernel
theorem dX9_find_186 : decode cX9_find 186 = .ok (.goto 35, 3) := by decide +kernel
theorem dX9_find_189 : decode cX9_find 189 = .ok (.iload_n 1, 1) := by decide +kernel
theorem dX9_find_190 : decode cX9_find 190 = .ok (.iconst 2, 1) := by decide +kernel
theorem dX9_find_191 : decode cX9_find 191 = .ok (.if_icmp .ne 8, 3) := by decide +kernel
theorem dX9_find_194 : decode cX9_find 194 = .ok (.iload 4, 2) := by decide +kernel
theorem dX9_find_196 : decode cX9_find 196 = .ok (.goto 25, 3) := by decide +kernel
theorem dX9_find_199 : decode cX9_find 199 = .ok (.iload_n 1, 1) := by decide +kernel
theorem dX9_find_200 : decode cX9_find 200 = .ok (.iconst 3, 1) := by decide +kernel
theorem dX9_find_201 : decode cX9_find 201 = .ok (.if_icmp .ne 8, 3) := by decide +kernel
theorem dX9_find_204 : decode cX9_find 204 = .ok (.iload 5, 2) := by decide +kernel
theorem dX9_find_206 : decode cX9_find 206 = .ok (.goto 15, 3) := by decide +kernel
theorem dX9_find_209 : decode cX9_find 209 = .ok (.iload_n 1, 1) := by decide +kernel
theorem dX9_find_210 : decode cX9_find 210 = .ok (.iconst 4, 1) := by decide +kernel
theorem dX9_find_211 : decode cX9_find 211 = .ok (.if_icmp .ne 8, 3) := by decide +kernel
theorem dX9_find_214 : decode cX9_find 214 = .ok (.iload 6, 2) := by decide +kernel
theorem dX9_find_216 : decode cX9_find 216 = .ok (.goto 5, 3) := by decide +kernel
theorem dX9_find_219 : decode cX9_find 219 = .ok (.iload 7, 2) := by decide +kernel
theorem dX9_find_221 : decode cX9_find 221 = .ok (.ireturn, 1) := by decide +kernel
theorem dX9_where_0 : decode cX9_where 0 = .ok (.iconst 0, 1) := by decide +kernel
theorem dX9_where_1 : decode cX9_where 1 = .ok (.istore_n 2, 1) := by decide +kernel
theorem dX9_where_2 : decode cX9_where 2 = .ok (.iconst 0, 1) := by decide +kernel
theorem dX9_where_3 : decode cX9_where 3 = .ok (.istore_n 3, 1) := by decide +kernel
theorem dX9_where_4 : decode cX9_where 4 = .ok (.iload_n 3, 1) := by decide +kernel
theorem dX9_where_5 : decode cX9_where 5 = .ok (.aload_n 0, 1) := by decide +kernel
theorem dX9_where_6 : decode cX9_where 6 = .ok (.getfield 48, 3) := by decide +kernel
theorem dX9_where_9 : decode cX9_where 9 = .ok (.if_icmp .ge 35, 3) := by decide +kernel
theorem dX9_where_12 : decode cX9_where 12 = .ok (.iload_n 1, 1) := by decide +kernel
theorem dX9_where_13 : decode cX9_where 13 = .ok (.ifCond .lt 31, 3) := by decide +kernel
theorem dX9_where_16 : decode cX9_where 16 = .ok (.aload_n 0, 1) := by decide +kernel
theorem dX9_where_17 : decode cX9_where 17 = .ok (.iload_n 3, 1) := by decide +kernel
theorem dX9_where_18 : decode cX9_where 18 = .ok (.invokevirtual 91, 3) := by decide +kernel
theorem dX9_where_21 : decode cX9_where 21 = .ok (.aload_n 0, 1) := by decide +kernel
theorem dX9_where_22 : decode cX9_where 22 = .ok (.getfield 88, 3) := by decide +kernel
theorem dX9_where_25 : decode cX9_where 25 = .ok (.if_icmp .ne 13, 3) := by decide +kernel
theorem dX9_where_28 : decode cX9_where 28 = .ok (.iload_n 2, 1) := by decide +kernel
theorem dX9_where_29 : decode cX9_where 29 = .ok (.iload_n 1, 1) := by decide +kernel
theorem dX9_where_30 : decode cX9_where 30 = .ok (.if_icmp .ne 5, 3) := by decide +kernel
theorem dX9_where_33 : decode cX9_where 33 = .ok (.iload_n 3, 1) := by decide +kernel
theorem dX9_where_34 : decode cX9_where 34 = .ok (.ireturn, 1) := by decide +kernel
theorem dX9_where_35 : decode cX9_where 35 = .ok (.iinc 2 1, 3) := by decide +kernel
theorem dX9_where_38 : decode cX9_where 38 = .ok (.iinc 3 1, 3) := by decide +kernel
theorem dX9_where_41 : decode cX9_where 41 = .ok (.goto (-37), 3) := by decide +kernel
theorem dX9_where_44 : decode cX9_where 44 = .ok (.iconst (-1), 1) := by decide +kernel
theorem dX9_where_45 : decode cX9_where 45 = .ok (.ireturn, 1) := by decide +kernel
theorem dX9_different_0 : decode cX9_different 0 = .ok (.lconst 0, 1) := by decide +kernel
theorem dX9_different_1 : decode cX9_different 1 = .ok (.lstore_n 1, 1) := by decide +kernel
theorem dX9_different_2 : decode cX9_different 2 = .ok (.iconst 0, 1) := by decide +kernel
theorem dX9_different_3 : decode cX9_different 3 = .ok (.istore_n 3, 1) := by decide +kernel
theorem dX9_different_4 : decode cX9_different 4 = .ok (.iload_n 3, 1) := by decide +kernel
theorem dX9_different_5 : decode cX9_different 5 = .ok (.aload_n 0, 1) := by decide +kernel
theorem dX9_different_6 : decode cX9_different 6 = .ok (.getfield 48, 3) := by decide +kernel
theorem dX9_different_9 : decode cX9_different 9 = .ok (.if_icmp .ge 29, 3) := by decide +kernel
theorem dX9_different_12 : decode cX9_different 12 = .ok (.lload_n 1, 1) := by decide +kernel
theorem dX9_different_13 : decode cX9_different 13 = .ok (.aload_n 0, 1) := by decide +kernel
theorem dX9_different_14 : decode cX9_different 14 = .ok (.aload_n 0, 1) := by decide +kernel
theorem dX9_different_15 : decode cX9_different 15 = .ok (.getfield 29, 3) := by decide +kernel
theorem dX9_different_18 : decode cX9_different 18 = .ok (.iload_n 3, 1) := by decide +kernel
theorem dX9_different_19 : decode cX9_different 19 = .ok (.iaload, 1) := by decide +kernel
theorem dX9_different_20 : decode cX9_different 20 = .ok (.invokevirtual 94, 3) := by decide +kernel
theorem dX9_different_23 : decode cX9_different 23 = .ok (.aload_n 0, 1) := by decide +kernel
theorem dX9_different_24 : decode cX9_different 24 = .ok (.iload_n 3, 1) := by decide +kernel
theorem dX9_different_25 : decode cX9_different 25 = .ok (.invokevirtual 81, 3) := by decide +kernel
theorem dX9_different_28 : decode cX9_different 28 = .ok (.isub, 1) := by decide +kernel
theorem dX9_different_29 : decode cX9_different 29 = .ok (.i2l, 1) := by decide +kernel
theorem dX9_different_30 : decode cX9_different 30 = .ok (.ladd, 1) := by decide +kernel
theorem dX9_different_31 : decode cX9_different 31 = .ok (.lstore_n 1, 1) := by decide +kernel
theorem dX9_different_32 : decode cX9_different 32 = .ok (.iinc 3 1, 3) := by decide +kernel
theorem dX9_different_35 : decode cX9_different 35 = .ok (.goto (-31), 3) := by decide +kernel
theorem dX9_different_38 : decode cX9_different 38 = .ok (.lload_n 1, 1) := by decide +kernel
theorem dX9_different_39 : decode cX9_different 39 = .ok (.lreturn, 1) := by decide +kernel
theorem dX9_repeats_0 : decode cX9_repeats 0 = .ok (.iload_n 1, 1) := by decide +kernel
theorem dX9_repeats_1 : decode cX9_repeats 1 = .ok (.iconst 1, 1) := by decide +kernel
theorem dX9_repeats_2 : decode cX9_repeats 2 = .ok (.if_icmp .lt 15, 3) := by decide +kernel
theorem dX9_repeats_5 : decode cX9_repeats 5 = .ok (.iload_n 2, 1) := by decide +kernel
theorem dX9_repeats_6 : decode cX9_repeats 6 = .ok (.iconst 1, 1) := by decide +kernel
theorem dX9_repeats_7 : decode cX9_repeats 7 = .ok (.if_icmp .lt 10, 3) := by decide +kernel
theorem dX9_repeats_10 : decode cX9_repeats 10 = .ok (.iload_n 2, 1) := by decide +kernel
theorem dX9_repeats_11 : decode cX9_repeats 11 = .ok (.sipush 408, 3) := by decide +kernel
theorem dX9_repeats_14 : decode cX9_repeats 14 = .ok (.if_icmp .le 5, 3) := by decide +kernel
theorem dX9_repeats_17 : decode cX9_repeats 17 = .ok (.iconst (-1), 1) := by decide +kernel
theorem dX9_repeats_18 : decode cX9_repeats 18 = .ok (.ireturn, 1) := by decide +kernel
theorem dX9_repeats_19 : decode cX9_repeats 19 = .ok (.iconst 0, 1) := by decide +kernel
theorem dX9_repeats_20 : decode cX9_repeats 20 = .ok (.istore_n 3, 1) := by decide +kernel
theorem dX9_repeats_21 : decode cX9_repeats 21 = .ok (.iconst 0, 1) := by decide +kernel
theorem dX9_repeats_22 : decode cX9_repeats 22 = .ok (.istore 4, 2) := by decide +kernel
theorem dX9_repeats_24 : decode cX9_repeats 24 = .ok (.iconst 0, 1) := by decide +kernel
theorem dX9_repeats_25 : decode cX9_repeats 25 = .ok (.istore 5, 2) := by decide +kernel
theorem dX9_repeats_27 : decode cX9_repeats 27 = .ok (.iload 5, 2) := by decide +kernel
theorem dX9_repeats_29 : decode cX9_repeats 29 = .ok (.aload_n 0, 1) := by decide +kernel
theorem dX9_repeats_30 : decode cX9_repeats 30 = .ok (.getfield 48, 3) := by decide +kernel
theorem dX9_repeats_33 : decode cX9_repeats 33 = .ok (.if_icmp .ge 79, 3) := by decide +kernel
theorem dX9_repeats_36 : decode cX9_repeats 36 = .ok (.iload 4, 2) := by decide +kernel
theorem dX9_repeats_38 : decode cX9_repeats 38 = .ok (.ifCond .le 17, 3) := by decide +kernel
theorem dX9_repeats_41 : decode cX9_repeats 41 = .ok (.aload_n 0, 1) := by decide +kernel
theorem dX9_repeats_42 : decode cX9_repeats 42 = .ok (.iload 5, 2) := by decide +kernel
theorem dX9_repeats_44 : decode cX9_repeats 44 = .ok (.invokevirtual 81, 3) := by decide +kernel
theorem dX9_repeats_47 : decode cX9_repeats 47 = .ok (.iload_n 1, 1) := by decide +kernel
theorem dX9_repeats_48 : decode cX9_repeats 48 = .ok (.if_icmp .lt 7, 3) := by decide +kernel
theorem dX9_repeats_51 : decode cX9_repeats 51 = .ok (.iconst 1, 1) := by decide +kernel
theorem dX9_repeats_52 : decode cX9_repeats 52 = .ok (.goto 4, 3) := by decide +kernel
theorem dX9_repeats_55 : decode cX9_repeats 55 = .ok (.iconst 0, 1) := by decide +kernel
theorem dX9_repeats_56 : decode cX9_repeats 56 = .ok (.istore 6, 2) := by decide +kernel
theorem dX9_repeats_58 : decode cX9_repeats 58 = .ok (.aload_n 0, 1) := by decide +kernel
theorem dX9_repeats_59 : decode cX9_repeats 59 = .ok (.aload_n 0, 1) := by decide +kernel
theorem dX9_repeats_60 : decode cX9_repeats 60 = .ok (.getfield 29, 3) := by decide +kernel
theorem dX9_repeats_63 : decode cX9_repeats 63 = .ok (.iload 5, 2) := by decide +kernel
theorem dX9_repeats_65 : decode cX9_repeats 65 = .ok (.iaload, 1) := by decide +kernel
theorem dX9_repeats_66 : decode cX9_repeats 66 = .ok (.invokevirtual 94, 3) := by decide +kernel
theorem dX9_repeats_69 : decode cX9_repeats 69 = .ok (.iload_n 1, 1) := by decide +kernel
theorem dX9_repeats_70 : decode cX9_repeats 70 = .ok (.if_icmp .ge 7, 3) := by decide +kernel
theorem dX9_repeats_73 : decode cX9_repeats 73 = .ok (.iconst 0, 1) := by decide +kernel
theorem dX9_repeats_74 : decode cX9_repeats 74 = .ok (.goto 16, 3) := by decide +kernel
theorem dX9_repeats_77 : decode cX9_repeats 77 = .ok (.iload 6, 2) := by decide +kernel
theorem dX9_repeats_79 : decode cX9_repeats 79 = .ok (.ifCond .eq 10, 3) := by decide +kernel
theorem dX9_repeats_82 : decode cX9_repeats 82 = .ok (.iload 4, 2) := by decide +kernel
theorem dX9_repeats_84 : decode cX9_repeats 84 = .ok (.iconst 1, 1) := by decide +kernel
theorem dX9_repeats_85 : decode cX9_repeats 85 = .ok (.iadd, 1) := by decide +kernel
theorem dX9_repeats_86 : decode cX9_repeats 86 = .ok (.goto 4, 3) := by decide +kernel
theorem dX9_repeats_89 : decode cX9_repeats 89 = .ok (.iconst 1, 1) := by decide +kernel
theorem dX9_repeats_90 : decode cX9_repeats 90 = .ok (.istore 4, 2) := by decide +kernel
theorem dX9_repeats_92 : decode cX9_repeats 92 = .ok (.iload_n 3, 1) := by decide +kernel
theorem dX9_repeats_93 : decode cX9_repeats 93 = .ok (.iload 4, 2) := by decide +kernel
theorem dX9_repeats_95 : decode cX9_repeats 95 = .ok (.iload_n 2, 1) := by decide +kernel
theorem dX9_repeats_96 : decode cX9_repeats 96 = .ok (.if_icmp .ne 7, 3) := by decide +kernel
theorem dX9_repeats_99 : decode cX9_repeats 99 = .ok (.iconst 1, 1) := by decide +kernel
theorem dX9_repeats_100 : decode cX9_repeats 100 = .ok (.goto 4, 3) := by decide +kernel
theorem dX9_repeats_103 : decode cX9_repeats 103 = .ok (.iconst 0, 1) := by decide +kernel
theorem dX9_repeats_104 : decode cX9_repeats 104 = .ok (.iadd, 1) := by decide +kernel
theorem dX9_repeats_105 : decode cX9_repeats 105 = .ok (.istore_n 3, 1) := by decide +kernel
theorem dX9_repeats_106 : decode cX9_repeats 106 = .ok (.iinc 5 1, 3) := by decide +kernel
theorem dX9_repeats_109 : decode cX9_repeats 109 = .ok (.goto (-82), 3) := by decide +kernel
theorem dX9_repeats_112 : decode cX9_repeats 112 = .ok (.iload_n 3, 1) := by decide +kernel
theorem dX9_repeats_113 : decode cX9_repeats 113 = .ok (.ireturn, 1) := by decide +kernel
theorem dX9_tellStretch_0 : decode cX9_tellStretch 0 = .ok (.iload_n 3, 1) := by decide +kernel
theorem dX9_tellStretch_1 : decode cX9_tellStretch 1 = .ok (.ifCond .ne 5, 3) := by decide +kernel
theorem dX9_tellStretch_4 : decode cX9_tellStretch 4 = .ok (.iload_n 2, 1) := by decide +kernel
theorem dX9_tellStretch_5 : decode cX9_tellStretch 5 = .ok (.ireturn, 1) := by decide +kernel
theorem dX9_tellStretch_6 : decode cX9_tellStretch 6 = .ok (.iload_n 2, 1) := by decide +kernel
theorem dX9_tellStretch_7 : decode cX9_tellStretch 7 = .ok (.ifCond .ne 5, 3) := by decide +kernel
theorem dX9_tellStretch_10 : decode cX9_tellStretch 10 = .ok (.iconst (-1), 1) := by decide +kernel
theorem dX9_tellStretch_11 : decode cX9_tellStretch 11 = .ok (.ireturn, 1) := by decide +kernel
theorem dX9_tellStretch_12 : decode cX9_tellStretch 12 = .ok (.iconst (-1), 1) := by decide +kernel
theorem dX9_tellStretch_13 : decode cX9_tellStretch 13 = .ok (.istore 4, 2) := by decide +kernel
theorem dX9_tellStretch_15 : decode cX9_tellStretch 15 = .ok (.iconst 0, 1) := by decide +kernel
theorem dX9_tellStretch_16 : decode cX9_tellStretch 16 = .ok (.istore 5, 2) := by decide +kernel
theorem dX9_tellStretch_18 : decode cX9_tellStretch 18 = .ok (.iconst 0, 1) := by decide +kernel
theorem dX9_tellStretch_19 : decode cX9_tellStretch 19 = .ok (.istore 6, 2) := by decide +kernel
theorem dX9_tellStretch_21 : decode cX9_tellStretch 21 = .ok (.iconst 0, 1) := by decide +kernel
theorem dX9_tellStretch_22 : decode cX9_tellStretch 22 = .ok (.istore 7, 2) := by decide +kernel
theorem dX9_tellStretch_24 : decode cX9_tellStretch 24 = .ok (.iconst 0, 1) := by decide +kernel
theorem dX9_tellStretch_25 : decode cX9_tellStretch 25 = .ok (.istore 8, 2) := by decide +kernel
theorem dX9_tellStretch_27 : decode cX9_tellStretch 27 = .ok (.iload 8, 2) := by decide +kernel
theorem dX9_tellStretch_29 : decode cX9_tellStretch 29 = .ok (.aload_n 0, 1) := by decide +kernel
theorem dX9_tellStretch_30 : decode cX9_tellStretch 30 = .ok (.getfield 48, 3) := by decide +kernel
theorem dX9_tellStretch_33 : decode cX9_tellStretch 33 = .ok (.if_icmp .ge 81, 3) := by decide +kernel
theorem dX9_tellStretch_36 : decode cX9_tellStretch 36 = .ok (.aload_n 0, 1) := by decide +kernel
theorem dX9_tellStretch_37 : decode cX9_tellStretch 37 = .ok (.iload 8, 2) := by decide +kernel
theorem dX9_tellStretch_39 : decode cX9_tellStretch 39 = .ok (.aload_n 0, 1) := by decide +kernel
theorem dX9_tellStretch_40 : decode cX9_tellStretch 40 = .ok (.getfield 29, 3) := by decide +kernel
theorem dX9_tellStretch_43 : decode cX9_tellStretch 43 = .ok (.iload_n 1, 1) := by decide +kernel
theorem dX9_tellStretch_44 : decode cX9_tellStretch 44 = .ok (.iaload, 1) := by decide +kernel
theorem dX9_tellStretch_45 : decode cX9_tellStretch 45 = .ok (.invokevirtual 70, 3) := by decide +kernel
theorem dX9_tellStretch_48 : decode cX9_tellStretch 48 = .ok (.iload_n 2, 1) := by decide +kernel
theorem dX9_tellStretch_49 : decode cX9_tellStretch 49 = .ok (.if_icmp .lt 59, 3) := by decide +kernel
theorem dX9_tellStretch_52 : decode cX9_tellStretch 52 = .ok (.iload 4, 2) := by decide +kernel
theorem dX9_tellStretch_54 : decode cX9_tellStretch 54 = .ok (.ifCond .ge 8, 3) := by decide +kernel
theorem dX9_tellStretch_57 : decode cX9_tellStretch 57 = .ok (.iload 8, 2) := by decide +kernel
theorem dX9_tellStretch_59 : decode cX9_tellStretch 59 = .ok (.goto 5, 3) := by decide +kernel
theorem dX9_tellStretch_62 : decode cX9_tellStretch 62 = .ok (.iload 4, 2) := by decide +kernel
theorem dX9_tellStretch_64 : decode cX9_tellStretch 64 = .ok (.istore 4, 2) := by decide +kernel
theorem dX9_tellStretch_66 : decode cX9_tellStretch 66 = .ok (.iinc 5 1, 3) := by decide +kernel
theorem dX9_tellStretch_69 : decode cX9_tellStretch 69 = .ok (.iload 6, 2) := by decide +kernel
theorem dX9_tellStretch_71 : decode cX9_tellStretch 71 = .ok (.iload 7, 2) := by decide +kernel
theorem dX9_tellStretch_73 : decode cX9_tellStretch 73 = .ok (.aload_n 0, 1) := by decide +kernel
theorem dX9_tellStretch_74 : decode cX9_tellStretch 74 = .ok (.getfield 19, 3) := by decide +kernel
theorem dX9_tellStretch_77 : decode cX9_tellStretch 77 = .ok (.iload 8, 2) := by decide +kernel
theorem dX9_tellStretch_79 : decode cX9_tellStretch 79 = .ok (.iaload, 1) := by decide +kernel
theorem dX9_tellStretch_80 : decode cX9_tellStretch 80 = .ok (.ishr, 1) := by decide +kernel
theorem dX9_tellStretch_81 : decode cX9_tellStretch 81 = .ok (.iconst 1, 1) := by decide +kernel
theorem dX9_tellStretch_82 : decode cX9_tellStretch 82 = .ok (.iand, 1) := by decide +kernel
theorem dX9_tellStretch_83 : decode cX9_tellStretch 83 = .ok (.ifCond .ne 7, 3) := by decide +kernel
theorem dX9_tellStretch_86 : decode cX9_tellStretch 86 = .ok (.iconst 1, 1) := by decide +kernel
theorem dX9_tellStretch_87 : decode cX9_tellStretch 87 = .ok (.goto 4, 3) := by decide +kernel
theorem dX9_tellStretch_90 : decode cX9_tellStretch 90 = .ok (.iconst 0, 1) := by decide +kernel
theorem dX9_tellStretch_91 : decode cX9_tellStretch 91 = .ok (.iadd, 1) := by decide +kernel
theorem dX9_tellStretch_92 : decode cX9_tellStretch 92 = .ok (.istore 6, 2) := by decide +kernel
theorem dX9_tellStretch_94 : decode cX9_tellStretch 94 = .ok (.iload 7, 2) := by decide +kernel
theorem dX9_tellStretch_96 : decode cX9_tellStretch 96 = .ok (.iconst 1, 1) := by decide +kernel
theorem dX9_tellStretch_97 : decode cX9_tellStretch 97 = .ok (.aload_n 0, 1) := by decide +kernel
theorem dX9_tellStretch_98 : decode cX9_tellStretch 98 = .ok (.getfield 19, 3) := by decide +kernel
theorem dX9_tellStretch_101 : decode cX9_tellStretch 101 = .ok (.iload 8, 2) := by decide +kernel
theorem dX9_tellStretch_103 : decode cX9_tellStretch 103 = .ok (.iaload, 1) := by decide +kernel
theorem dX9_tellStretch_104 : decode cX9_tellStretch 104 = .ok (.ishl, 1) := by decide +kernel
theorem dX9_tellStretch_105 : decode cX9_tellStretch 105 = .ok (.ior, 1) := by decide +kernel
theorem dX9_tellStretch_106 : decode cX9_tellStretch 106 = .ok (.istore 7, 2) := by decide +kernel
theorem dX9_tellStretch_108 : decode cX9_tellStretch 108 = .ok (.iinc 8 1, 3) := by decide +kernel
theorem dX9_tellStretch_111 : decode cX9_tellStretch 111 = .ok (.goto (-84), 3) := by decide +kernel
theorem dX9_tellStretch_114 : decode cX9_tellStretch 114 = .ok (.iload_n 3, 1) := by decide +kernel
theorem dX9_tellStretch_115 : decode cX9_tellStretch 115 = .ok (.iconst 1, 1) := by decide +kernel
theorem dX9_tellStretch_116 : decode cX9_tellStretch 116 = .ok (.if_icmp .ne 8, 3) := by decide +kernel
theorem dX9_tellStretch_119 : decode cX9_tellStretch 119 = .ok (.iload 4, 2) := by decide +kernel
theorem dX9_tellStretch_121 : decode cX9_tellStretch 121 = .ok (.goto 15, 3) := by decide +kernel
theorem dX9_tellStretch_124 : decode cX9_tellStretch 124 = .ok (.iload_n 3, 1) := by decide +kernel
theorem dX9_tellStretch_125 : decode cX9_tellStretch 125 = .ok (.iconst 2, 1) := by decide +kernel
theorem dX9_tellStretch_126 : decode cX9_tellStretch 126 = .ok (.if_icmp .ne 8, 3) := by decide +kernel
theorem dX9_tellStretch_129 : decode cX9_tellStretch 129 = .ok (.iload 5, 2) := by decide +kernel
theorem dX9_tellStretch_131 : decode cX9_tellStretch 131 = .ok (.goto 5, 3) := by decide +kernel
theorem dX9_tellStretch_134 : decode cX9_tellStretch 134 = .ok (.iload 6, 2) := by decide +kernel
theorem dX9_tellStretch_136 : decode cX9_tellStretch 136 = .ok (.ireturn, 1) := by decide +kernel
theorem dX9_longest_0 : decode cX9_longest 0 = .ok (.iload_n 1, 1) := by decide +kernel
theorem dX9_longest_1 : decode cX9_longest 1 = .ok (.iconst 2, 1) := by decide +kernel
theorem dX9_longest_2 : decode cX9_longest 2 = .ok (.if_icmp .lt 19, 3) := by decide +kernel
theorem dX9_longest_5 : decode cX9_longest 5 = .ok (.iload_n 1, 1) := by decide +kernel
theorem dX9_longest_6 : decode cX9_longest 6 = .ok (.sipush 408, 3) := by decide +kernel
theorem dX9_longest_9 : decode cX9_longest 9 = .ok (.if_icmp .gt 12, 3) := by decide +kernel
theorem dX9_longest_12 : decode cX9_longest 12 = .ok (.iload_n 2, 1) := by decide +kernel
theorem dX9_longest_13 : decode cX9_longest 13 = .ok (.ifCond .lt 8, 3) := by decide +kernel
theorem dX9_longest_16 : decode cX9_longest 16 = .ok (.iload_n 2, 1) := by decide +kernel
theorem dX9_longest_17 : decode cX9_longest 17 = .ok (.iconst 2, 1) := by decide +kernel
theorem dX9_longest_18 : decode cX9_longest 18 = .ok (.if_icmp .le 5, 3) := by decide +kernel
theorem dX9_longest_21 : decode cX9_longest 21 = .ok (.iconst (-1), 1) := by decide +kernel
theorem dX9_longest_22 : decode cX9_longest 22 = .ok (.ireturn, 1) := by decide +kernel
theorem dX9_longest_23 : decode cX9_longest 23 = .ok (.iconst 0, 1) := by decide +kernel
theorem dX9_longest_24 : decode cX9_longest 24 = .ok (.istore_n 3, 1) := by decide +kernel
theorem dX9_longest_25 : decode cX9_longest 25 = .ok (.iconst 0, 1) := by decide +kernel
theorem dX9_longest_26 : decode cX9_longest 26 = .ok (.istore 4, 2) := by decide +kernel
theorem dX9_longest_28 : decode cX9_longest 28 = .ok (.iconst 0, 1) := by decide +kernel
theorem dX9_longest_29 : decode cX9_longest 29 = .ok (.istore 5, 2) := by decide +kernel
theorem dX9_longest_31 : decode cX9_longest 31 = .ok (.iload 5, 2) := by decide +kernel
theorem dX9_longest_33 : decode cX9_longest 33 = .ok (.iload_n 1, 1) := by decide +kernel
theorem dX9_longest_34 : decode cX9_longest 34 = .ok (.iadd, 1) := by decide +kernel
theorem dX9_longest_35 : decode cX9_longest 35 = .ok (.aload_n 0, 1) := by decide +kernel
theorem dX9_longest_36 : decode cX9_longest 36 = .ok (.getfield 48, 3) := by decide +kernel
theorem dX9_longest_39 : decode cX9_longest 39 = .ok (.if_icmp .gt 72, 3) := by decide +kernel
theorem dX9_longest_42 : decode cX9_longest 42 = .ok (.sipush 400, 3) := by decide +kernel
theorem dX9_longest_45 : decode cX9_longest 45 = .ok (.istore 6, 2) := by decide +kernel
theorem dX9_longest_47 : decode cX9_longest 47 = .ok (.iload 5, 2) := by decide +kernel
theorem dX9_longest_49 : decode cX9_longest 49 = .ok (.iconst 1, 1) := by decide +kernel
theorem dX9_longest_50 : decode cX9_longest 50 = .ok (.iadd, 1) := by decide +kernel
theorem dX9_longest_51 : decode cX9_longest 51 = .ok (.istore 7, 2) := by decide +kernel
theorem dX9_longest_53 : decode cX9_longest 53 = .ok (.iload 7, 2) := by decide +kernel
theorem dX9_longest_55 : decode cX9_longest 55 = .ok (.iload 5, 2) := by decide +kernel
theorem dX9_longest_57 : decode cX9_longest 57 = .ok (.iload_n 1, 1) := by decide +kernel
theorem dX9_longest_58 : decode cX9_longest 58 = .ok (.iadd, 1) := by decide +kernel
theorem dX9_longest_59 : decode cX9_longest 59 = .ok (.if_icmp .ge 33, 3) := by decide +kernel
theorem dX9_longest_62 : decode cX9_longest 62 = .ok (.aload_n 0, 1) := by decide +kernel
theorem dX9_longest_63 : decode cX9_longest 63 = .ok (.iload 7, 2) := by decide +kernel
theorem dX9_longest_65 : decode cX9_longest 65 = .ok (.invokevirtual 81, 3) := by decide +kernel
theorem dX9_longest_68 : decode cX9_longest 68 = .ok (.iload 6, 2) := by decide +kernel
theorem dX9_longest_70 : decode cX9_longest 70 = .ok (.if_icmp .ge 12, 3) := by decide +kernel
theorem dX9_longest_73 : decode cX9_longest 73 = .ok (.aload_n 0, 1) := by decide +kernel
theorem dX9_longest_74 : decode cX9_longest 74 = .ok (.iload 7, 2) := by decide +kernel
theorem dX9_longest_76 : decode cX9_longest 76 = .ok (.invokevirtual 81, 3) := by decide +kernel
theorem dX9_longest_79 : decode cX9_longest 79 = .ok (.goto 5, 3) := by decide +kernel
theorem dX9_longest_82 : decode cX9_longest 82 = .ok (.iload 6, 2) := by decide +kernel
theorem dX9_longest_84 : decode cX9_longest 84 = .ok (.istore 6, 2) := by decide +kernel
theorem dX9_longest_86 : decode cX9_longest 86 = .ok (.iinc 7 1, 3) := by decide +kernel
theorem dX9_longest_89 : decode cX9_longest 89 = .ok (.goto (-36), 3) := by decide +kernel
theorem dX9_longest_92 : decode cX9_longest 92 = .ok (.iload 6, 2) := by decide +kernel
theorem dX9_longest_94 : decode cX9_longest 94 = .ok (.iload_n 3, 1) := by decide +kernel
theorem dX9_longest_95 : decode cX9_longest 95 = .ok (.if_icmp .le 10, 3) := by decide +kernel
theorem dX9_longest_98 : decode cX9_longest 98 = .ok (.iload 6, 2) := by decide +kernel
theorem dX9_longest_100 : decode cX9_longest 100 = .ok (.istore_n 3, 1) := by decide +kernel
theorem dX9_longest_101 : decode cX9_longest 101 = .ok (.iload 5, 2) := by decide +kernel
theorem dX9_longest_103 : decode cX9_longest 103 = .ok (.istore 4, 2) := by decide +kernel
theorem dX9_longest_105 : decode cX9_longest 105 = .ok (.iinc 5 1, 3) := by decide +kernel
theorem dX9_longest_108 : decode cX9_longest 108 = .ok (.goto (-77), 3) := by decide +kernel
theorem dX9_longest_111 : decode cX9_longest 111 = .ok (.aload_n 0, 1) := by decide +kernel
theorem dX9_longest_112 : decode cX9_longest 112 = .ok (.iload 4, 2) := by decide +kernel
theorem dX9_longest_114 : decode cX9_longest 114 = .ok (.iload_n 3, 1) := by decide +kernel
theorem dX9_longest_115 : decode cX9_longest 115 = .ok (.iload_n 2, 1) := by decide +kernel
theorem dX9_longest_116 : decode cX9_longest 116 = .ok (.invokevirtual 97, 3) := by decide +kernel
theorem dX9_longest_119 : decode cX9_longest 119 = .ok (.ireturn, 1) := by decide +kernel
theorem dX9_shared_0 : decode cX9_shared 0 = .ok (.iload_n 1, 1) := by decide +kernel
theorem dX9_shared_1 : decode cX9_shared 1 = .ok (.iconst 1, 1) := by decide +kernel
theorem dX9_shared_2 : decode cX9_shared 2 = .ok (.if_icmp .lt 18, 3) := by decide +kernel
theorem dX9_shared_5 : decode cX9_shared 5 = .ok (.iload_n 1, 1) := by decide +kernel
theorem dX9_shared_6 : decode cX9_shared 6 = .ok (.bipush 8, 2) := by decide +kernel
theorem dX9_shared_8 : decode cX9_shared 8 = .ok (.if_icmp .gt 12, 3) := by decide +kernel
theorem dX9_shared_11 : decode cX9_shared 11 = .ok (.iload_n 2, 1) := by decide +kernel
theorem dX9_shared_12 : decode cX9_shared 12 = .ok (.ifCond .lt 8, 3) := by decide +kernel
theorem dX9_shared_15 : decode cX9_shared 15 = .ok (.iload_n 2, 1) := by decide +kernel
theorem dX9_shared_16 : decode cX9_shared 16 = .ok (.iconst 3, 1) := by decide +kernel
theorem dX9_shared_17 : decode cX9_shared 17 = .ok (.if_icmp .le 5, 3) := by decide +kernel
theorem dX9_shared_20 : decode cX9_shared 20 = .ok (.iconst (-1), 1) := by decide +kernel
theorem dX9_shared_21 : decode cX9_shared 21 = .ok (.ireturn, 1) := by decide +kernel
theorem dX9_shared_22 : decode cX9_shared 22 = .ok (.iconst 0, 1) := by decide +kernel
theorem dX9_shared_23 : decode cX9_shared 23 = .ok (.istore_n 3, 1) := by decide +kernel
theorem dX9_shared_24 : decode cX9_shared 24 = .ok (.iconst 0, 1) := by decide +kernel
theorem dX9_shared_25 : decode cX9_shared 25 = .ok (.istore 4, 2) := by decide +kernel
theorem dX9_shared_27 : decode cX9_shared 27 = .ok (.iconst 0, 1) := by decide +kernel
theorem dX9_shared_28 : decode cX9_shared 28 = .ok (.istore 5, 2) := by decide +kernel
theorem dX9_shared_30 : decode cX9_shared 30 = .ok (.iload 5, 2) := by decide +kernel
theorem dX9_shared_32 : decode cX9_shared 32 = .ok (.aload_n 0, 1) := by decide +kernel
theorem dX9_shared_33 : decode cX9_shared 33 = .ok (.getfield 48, 3) := by decide +kernel
theorem dX9_shared_36 : decode cX9_shared 36 = .ok (.if_icmp .ge 132, 3) := by decide +kernel
theorem dX9_shared_39 : decode cX9_shared 39 = .ok (.iconst 0, 1) := by decide +kernel
theorem dX9_shared_40 : decode cX9_shared 40 = .ok (.istore 6, 2) := by decide +kernel
theorem dX9_shared_42 : decode cX9_shared 42 = .ok (.iload 6, 2) := by decide +kernel
theorem dX9_shared_44 : decode cX9_shared 44 = .ok (.bipush 8, 2) := by decide +kernel
theorem dX9_shared_46 : decode cX9_shared 46 = .ok (.if_icmp .ge 17, 3) := by decide +kernel
theorem dX9_shared_49 : decode cX9_shared 49 = .ok (.aload_n 0, 1) := by decide +kernel
theorem dX9_shared_50 : decode cX9_shared 50 = .ok (.getfield 41, 3) := by decide +kernel
theorem dX9_shared_53 : decode cX9_shared 53 = .ok (.iload 6, 2) := by decide +kernel
theorem dX9_shared_55 : decode cX9_shared 55 = .ok (.iconst 0, 1) := by decide +kernel
theorem dX9_shared_56 : decode cX9_shared 56 = .ok (.iastore, 1) := by decide +kernel
theorem dX9_shared_57 : decode cX9_shared 57 = .ok (.iinc 6 1, 3) := by decide +kernel
theorem dX9_shared_60 : decode cX9_shared 60 = .ok (.goto (-18), 3) := by decide +kernel
theorem dX9_shared_63 : decode cX9_shared 63 = .ok (.iconst 0, 1) := by decide +kernel
theorem dX9_shared_64 : decode cX9_shared 64 = .ok (.istore 6, 2) := by decide +kernel
theorem dX9_shared_66 : decode cX9_shared 66 = .ok (.iload 6, 2) := by decide +kernel
theorem dX9_shared_68 : decode cX9_shared 68 = .ok (.aload_n 0, 1) := by decide +kernel
theorem dX9_shared_69 : decode cX9_shared 69 = .ok (.getfield 48, 3) := by decide +kernel
theorem dX9_shared_72 : decode cX9_shared 72 = .ok (.if_icmp .ge 70, 3) := by decide +kernel
theorem dX9_shared_75 : decode cX9_shared 75 = .ok (.aload_n 0, 1) := by decide +kernel
theorem dX9_shared_76 : decode cX9_shared 76 = .ok (.aload_n 0, 1) := by decide +kernel
theorem dX9_shared_77 : decode cX9_shared 77 = .ok (.getfield 29, 3) := by decide +kernel
theorem dX9_shared_80 : decode cX9_shared 80 = .ok (.iload 5, 2) := by decide +kernel
theorem dX9_shared_82 : decode cX9_shared 82 = .ok (.iaload, 1) := by decide +kernel
theorem dX9_shared_83 : decode cX9_shared 83 = .ok (.iload 6, 2) := by decide +kernel
theorem dX9_shared_85 : decode cX9_shared 85 = .ok (.invokevirtual 70, 3) := by decide +kernel
theorem dX9_shared_88 : decode cX9_shared 88 = .ok (.istore 7, 2) := by decide +kernel
theorem dX9_shared_90 : decode cX9_shared 90 = .ok (.aload_n 0, 1) := by decide +kernel
theorem dX9_shared_91 : decode cX9_shared 91 = .ok (.getfield 41, 3) := by decide +kernel
theorem dX9_shared_94 : decode cX9_shared 94 = .ok (.aload_n 0, 1) := by decide +kernel
theorem dX9_shared_95 : decode cX9_shared 95 = .ok (.getfield 19, 3) := by decide +kernel
theorem dX9_shared_98 : decode cX9_shared 98 = .ok (.iload 6, 2) := by decide +kernel
theorem dX9_shared_100 : decode cX9_shared 100 = .ok (.iaload, 1) := by decide +kernel
theorem dX9_shared_101 : decode cX9_shared 101 = .ok (.iload 7, 2) := by decide +kernel
theorem dX9_shared_103 : decode cX9_shared 103 = .ok (.aload_n 0, 1) := by decide +kernel
theorem dX9_shared_104 : decode cX9_shared 104 = .ok (.getfield 41, 3) := by decide +kernel
theorem dX9_shared_107 : decode cX9_shared 107 = .ok (.aload_n 0, 1) := by decide +kernel
theorem dX9_shared_108 : decode cX9_shared 108 = .ok (.getfield 19, 3) := by decide +kernel
theorem dX9_shared_111 : decode cX9_shared 111 = .ok (.iload 6, 2) := by decide +kernel
theorem dX9_shared_113 : decode cX9_shared 113 = .ok (.iaload, 1) := by decide +kernel
theorem dX9_shared_114 : decode cX9_shared 114 = .ok (.iaload, 1) := by decide +kernel
theorem dX9_shared_115 : decode cX9_shared 115 = .ok (.if_icmp .le 8, 3) := by decide +kernel
theorem dX9_shared_118 : decode cX9_shared 118 = .ok (.iload 7, 2) := by decide +kernel
theorem dX9_shared_120 : decode cX9_shared 120 = .ok (.goto 15, 3) := by decide +kernel
theorem dX9_shared_123 : decode cX9_shared 123 = .ok (.aload_n 0, 1) := by decide +kernel
theorem dX9_shared_124 : decode cX9_shared 124 = .ok (.getfield 41, 3) := by decide +kernel
theorem dX9_shared_127 : decode cX9_shared 127 = .ok (.aload_n 0, 1) := by decide +kernel
theorem dX9_shared_128 : decode cX9_shared 128 = .ok (.getfield 19, 3) := by decide +kernel
theorem dX9_shared_131 : decode cX9_shared 131 = .ok (.iload 6, 2) := by decide +kernel
theorem dX9_shared_133 : decode cX9_shared 133 = .ok (.iaload, 1) := by decide +kernel
theorem dX9_shared_134 : decode cX9_shared 134 = .ok (.iaload, 1) := by decide +kernel
theorem dX9_shared_135 : decode cX9_shared 135 = .ok (.iastore, 1) := by decide +kernel
theorem dX9_shared_136 : decode cX9_shared 136 = .ok (.iinc 6 1, 3) := by decide +kernel
theorem dX9_shared_139 : decode cX9_shared 139 = .ok (.goto (-73), 3) := by decide +kernel
theorem dX9_shared_142 : decode cX9_shared 142 = .ok (.aload_n 0, 1) := by decide +kernel
theorem dX9_shared_143 : decode cX9_shared 143 = .ok (.iload_n 1, 1) := by decide +kernel
theorem dX9_shared_144 : decode cX9_shared 144 = .ok (.invokevirtual 101, 3) := by decide +kernel
theorem dX9_shared_147 : decode cX9_shared 147 = .ok (.istore 6, 2) := by decide +kernel
theorem dX9_shared_149 : decode cX9_shared 149 = .ok (.iload 6, 2) := by decide +kernel
theorem dX9_shared_151 : decode cX9_shared 151 = .ok (.iload_n 3, 1) := by decide +kernel
theorem dX9_shared_152 : decode cX9_shared 152 = .ok (.if_icmp .le 10, 3) := by decide +kernel
theorem dX9_shared_155 : decode cX9_shared 155 = .ok (.iload 6, 2) := by decide +kernel
theorem dX9_shared_157 : decode cX9_shared 157 = .ok (.istore_n 3, 1) := by decide +kernel
theorem dX9_shared_158 : decode cX9_shared 158 = .ok (.iload 5, 2) := by decide +kernel
theorem dX9_shared_160 : decode cX9_shared 160 = .ok (.istore 4, 2) := by decide +kernel
theorem dX9_shared_162 : decode cX9_shared 162 = .ok (.iinc 5 1, 3) := by decide +kernel
theorem dX9_shared_165 : decode cX9_shared 165 = .ok (.goto (-135), 3) := by decide +kernel
theorem dX9_shared_168 : decode cX9_shared 168 = .ok (.aload_n 0, 1) := by decide +kernel
theorem dX9_shared_169 : decode cX9_shared 169 = .ok (.iload 4, 2) := by decide +kernel
theorem dX9_shared_171 : decode cX9_shared 171 = .ok (.iload_n 3, 1) := by decide +kernel
theorem dX9_shared_172 : decode cX9_shared 172 = .ok (.iload_n 2, 1) := by decide +kernel
theorem dX9_shared_173 : decode cX9_shared 173 = .ok (.invokevirtual 97, 3) := by decide +kernel
theorem dX9_shared_176 : decode cX9_shared 176 = .ok (.ireturn, 1) := by decide +kernel
theorem dX9_mth_0 : decode cX9_mth 0 = .ok (.iconst 0, 1) := by decide +kernel
theorem dX9_mth_1 : decode cX9_mth 1 = .ok (.istore_n 2, 1) := by decide +kernel
theorem dX9_mth_2 : decode cX9_mth 2 = .ok (.iconst 0, 1) := by decide +kernel
theorem dX9_mth_3 : decode cX9_mth 3 = .ok (.istore_n 3, 1) := by decide +kernel
theorem dX9_mth_4 : decode cX9_mth 4 = .ok (.iload_n 3, 1) := by decide +kernel
theorem dX9_mth_5 : decode cX9_mth 5 = .ok (.bipush 8, 2) := by decide +kernel
theorem dX9_mth_7 : decode cX9_mth 7 = .ok (.if_icmp .ge 81, 3) := by decide +kernel
theorem dX9_mth_10 : decode cX9_mth 10 = .ok (.iconst 0, 1) := by decide +kernel
theorem dX9_mth_11 : decode cX9_mth 11 = .ok (.istore 4, 2) := by decide +kernel
theorem dX9_mth_13 : decode cX9_mth 13 = .ok (.iconst 0, 1) := by decide +kernel
theorem dX9_mth_14 : decode cX9_mth 14 = .ok (.istore 5, 2) := by decide +kernel
theorem dX9_mth_16 : decode cX9_mth 16 = .ok (.iload 5, 2) := by decide +kernel
theorem dX9_mth_18 : decode cX9_mth 18 = .ok (.bipush 8, 2) := by decide +kernel
theorem dX9_mth_20 : decode cX9_mth 20 = .ok (.if_icmp .ge 35, 3) := by decide +kernel
theorem dX9_mth_23 : decode cX9_mth 23 = .ok (.iload 4, 2) := by decide +kernel
theorem dX9_mth_25 : decode cX9_mth 25 = .ok (.aload_n 0, 1) := by decide +kernel
theorem dX9_mth_26 : decode cX9_mth 26 = .ok (.getfield 41, 3) := by decide +kernel
theorem dX9_mth_29 : decode cX9_mth 29 = .ok (.iload 5, 2) := by decide +kernel
theorem dX9_mth_31 : decode cX9_mth 31 = .ok (.iaload, 1) := by decide +kernel
theorem dX9_mth_32 : decode cX9_mth 32 = .ok (.aload_n 0, 1) := by decide +kernel
theorem dX9_mth_33 : decode cX9_mth 33 = .ok (.getfield 41, 3) := by decide +kernel
theorem dX9_mth_36 : decode cX9_mth 36 = .ok (.iload_n 3, 1) := by decide +kernel
theorem dX9_mth_37 : decode cX9_mth 37 = .ok (.iaload, 1) := by decide +kernel
theorem dX9_mth_38 : decode cX9_mth 38 = .ok (.if_icmp .lt 7, 3) := by decide +kernel
theorem dX9_mth_41 : decode cX9_mth 41 = .ok (.iconst 1, 1) := by decide +kernel
theorem dX9_mth_42 : decode cX9_mth 42 = .ok (.goto 4, 3) := by decide +kernel
theorem dX9_mth_45 : decode cX9_mth 45 = .ok (.iconst 0, 1) := by decide +kernel
theorem dX9_mth_46 : decode cX9_mth 46 = .ok (.iadd, 1) := by decide +kernel
theorem dX9_mth_47 : decode cX9_mth 47 = .ok (.istore 4, 2) := by decide +kernel
theorem dX9_mth_49 : decode cX9_mth 49 = .ok (.iinc 5 1, 3) := by decide +kernel
theorem dX9_mth_52 : decode cX9_mth 52 = .ok (.goto (-36), 3) := by decide +kernel
theorem dX9_mth_55 : decode cX9_mth 55 = .ok (.iload 4, 2) := by decide +kernel
theorem dX9_mth_57 : decode cX9_mth 57 = .ok (.iload_n 1, 1) := by decide +kernel
theorem dX9_mth_58 : decode cX9_mth 58 = .ok (.if_icmp .lt 22, 3) := by decide +kernel
theorem dX9_mth_61 : decode cX9_mth 61 = .ok (.aload_n 0, 1) := by decide +kernel
theorem dX9_mth_62 : decode cX9_mth 62 = .ok (.getfield 41, 3) := by decide +kernel
theorem dX9_mth_65 : decode cX9_mth 65 = .ok (.iload_n 3, 1) := by decide +kernel
theorem dX9_mth_66 : decode cX9_mth 66 = .ok (.iaload, 1) := by decide +kernel
theorem dX9_mth_67 : decode cX9_mth 67 = .ok (.iload_n 2, 1) := by decide +kernel
theorem dX9_mth_68 : decode cX9_mth 68 = .ok (.if_icmp .le 12, 3) := by decide +kernel
theorem dX9_mth_71 : decode cX9_mth 71 = .ok (.aload_n 0, 1) := by decide +kernel
theorem dX9_mth_72 : decode cX9_mth 72 = .ok (.getfield 41, 3) := by decide +kernel
theorem dX9_mth_75 : decode cX9_mth 75 = .ok (.iload_n 3, 1) := by decide +kernel
theorem dX9_mth_76 : decode cX9_mth 76 = .ok (.iaload, 1) := by decide +kernel
theorem dX9_mth_77 : decode cX9_mth 77 = .ok (.goto 4, 3) := by decide +kernel
theorem dX9_mth_80 : decode cX9_mth 80 = .ok (.iload_n 2, 1) := by decide +kernel
theorem dX9_mth_81 : decode cX9_mth 81 = .ok (.istore_n 2, 1) := by decide +kernel
theorem dX9_mth_82 : decode cX9_mth 82 = .ok (.iinc 3 1, 3) := by decide +kernel
theorem dX9_mth_85 : decode cX9_mth 85 = .ok (.goto (-81), 3) := by decide +kernel
theorem dX9_mth_88 : decode cX9_mth 88 = .ok (.iload_n 2, 1) := by decide +kernel
theorem dX9_mth_89 : decode cX9_mth 89 = .ok (.ireturn, 1) := by decide +kernel
theorem dX9_placeBefore_0 : decode cX9_placeBefore 0 = .ok (.iload_n 1, 1) := by decide +kernel
theorem dX9_placeBefore_1 : decode cX9_placeBefore 1 = .ok (.ifCond .ne 12, 3) := by decide +kernel
theorem dX9_placeBefore_4 : decode cX9_placeBefore 4 = .ok (.aload_n 0, 1) := by decide +kernel
theorem dX9_placeBefore_5 : decode cX9_placeBefore 5 = .ok (.getfield 48, 3) := by decide +kernel
theorem dX9_placeBefore_8 : decode cX9_placeBefore 8 = .ok (.iconst 1, 1) := by decide +kernel
theorem dX9_placeBefore_9 : decode cX9_placeBefore 9 = .ok (.isub, 1) := by decide +kernel
theorem dX9_placeBefore_10 : decode cX9_placeBefore 10 = .ok (.goto 6, 3) := by decide +kernel
theorem dX9_placeBefore_13 : decode cX9_placeBefore 13 = .ok (.iload_n 1, 1) := by decide +kernel
theorem dX9_placeBefore_14 : decode cX9_placeBefore 14 = .ok (.iconst 1, 1) := by decide +kernel
theorem dX9_placeBefore_15 : decode cX9_placeBefore 15 = .ok (.isub, 1) := by decide +kernel
theorem dX9_placeBefore_16 : decode cX9_placeBefore 16 = .ok (.ireturn, 1) := by decide +kernel
theorem dX9_before_0 : decode cX9_before 0 = .ok (.aload_n 0, 1) := by decide +kernel
theorem dX9_before_1 : decode cX9_before 1 = .ok (.iload_n 1, 1) := by decide +kernel
theorem dX9_before_2 : decode cX9_before 2 = .ok (.invokevirtual 78, 3) := by decide +kernel
theorem dX9_before_5 : decode cX9_before 5 = .ok (.ifCond .eq 21, 3) := by decide +kernel
theorem dX9_before_8 : decode cX9_before 8 = .ok (.aload_n 0, 1) := by decide +kernel
theorem dX9_before_9 : decode cX9_before 9 = .ok (.getfield 16, 3) := by decide +kernel
theorem dX9_before_12 : decode cX9_before 12 = .ok (.aload_n 0, 1) := by decide +kernel
theorem dX9_before_13 : decode cX9_before 13 = .ok (.aload_n 0, 1) := by decide +kernel
theorem dX9_before_14 : decode cX9_before 14 = .ok (.getfield 29, 3) := by decide +kernel
theorem dX9_before_17 : decode cX9_before 17 = .ok (.iload_n 1, 1) := by decide +kernel
theorem dX9_before_18 : decode cX9_before 18 = .ok (.iaload, 1) := by decide +kernel
theorem dX9_before_19 : decode cX9_before 19 = .ok (.invokevirtual 104, 3) := by decide +kernel
theorem dX9_before_22 : decode cX9_before 22 = .ok (.iaload, 1) := by decide +kernel
theorem dX9_before_23 : decode cX9_before 23 = .ok (.goto 4, 3) := by decide +kernel
theorem dX9_before_26 : decode cX9_before 26 = .ok (.iconst (-1), 1) := by decide +kernel
theorem dX9_before_27 : decode cX9_before 27 = .ok (.ireturn, 1) := by decide +kernel
theorem dX9_back_0 : decode cX9_back 0 = .ok (.aload_n 0, 1) := by decide +kernel
theorem dX9_back_1 : decode cX9_back 1 = .ok (.iload_n 1, 1) := by decide +kernel
theorem dX9_back_2 : decode cX9_back 2 = .ok (.invokevirtual 78, 3) := by decide +kernel
theorem dX9_back_5 : decode cX9_back 5 = .ok (.ifCond .eq 21, 3) := by decide +kernel
theorem dX9_back_8 : decode cX9_back 8 = .ok (.aload_n 0, 1) := by decide +kernel
theorem dX9_back_9 : decode cX9_back 9 = .ok (.getfield 32, 3) := by decide +kernel
theorem dX9_back_12 : decode cX9_back 12 = .ok (.aload_n 0, 1) := by decide +kernel
theorem dX9_back_13 : decode cX9_back 13 = .ok (.aload_n 0, 1) := by decide +kernel
theorem dX9_back_14 : decode cX9_back 14 = .ok (.getfield 29, 3) := by decide +kernel
theorem dX9_back_17 : decode cX9_back 17 = .ok (.iload_n 1, 1) := by decide +kernel
theorem dX9_back_18 : decode cX9_back 18 = .ok (.iaload, 1) := by decide +kernel
theorem dX9_back_19 : decode cX9_back 19 = .ok (.invokevirtual 104, 3) := by decide +kernel
theorem dX9_back_22 : decode cX9_back 22 = .ok (.iaload, 1) := by decide +kernel
theorem dX9_back_23 : decode cX9_back 23 = .ok (.goto 4, 3) := by decide +kernel
theorem dX9_back_26 : decode cX9_back 26 = .ok (.iconst (-1), 1) := by decide +kernel
theorem dX9_back_27 : decode cX9_back 27 = .ok (.ireturn, 1) := by decide +kernel
theorem dX9_steps_0 : decode cX9_steps 0 = .ok (.aload_n 0, 1) := by decide +kernel
theorem dX9_steps_1 : decode cX9_steps 1 = .ok (.iload_n 1, 1) := by decide +kernel
theorem dX9_steps_2 : decode cX9_steps 2 = .ok (.invokevirtual 78, 3) := by decide +kernel
theorem dX9_steps_5 : decode cX9_steps 5 = .ok (.ifCond .eq 14, 3) := by decide +kernel
theorem dX9_steps_8 : decode cX9_steps 8 = .ok (.iload_n 2, 1) := by decide +kernel
theorem dX9_steps_9 : decode cX9_steps 9 = .ok (.iconst 1, 1) := by decide +kernel
theorem dX9_steps_10 : decode cX9_steps 10 = .ok (.if_icmp .lt 9, 3) := by decide +kernel
theorem dX9_steps_13 : decode cX9_steps 13 = .ok (.iload_n 2, 1) := by decide +kernel
theorem dX9_steps_14 : decode cX9_steps 14 = .ok (.bipush 64, 2) := by decide +kernel
theorem dX9_steps_16 : decode cX9_steps 16 = .ok (.if_icmp .le 5, 3) := by decide +kernel
theorem dX9_steps_19 : decode cX9_steps 19 = .ok (.iconst (-1), 1) := by decide +kernel
theorem dX9_steps_20 : decode cX9_steps 20 = .ok (.ireturn, 1) := by decide +kernel
theorem dX9_steps_21 : decode cX9_steps 21 = .ok (.aload_n 0, 1) := by decide +kernel
theorem dX9_steps_22 : decode cX9_steps 22 = .ok (.getfield 29, 3) := by decide +kernel
theorem dX9_steps_25 : decode cX9_steps 25 = .ok (.iload_n 1, 1) := by decide +kernel
theorem dX9_steps_26 : decode cX9_steps 26 = .ok (.iaload, 1) := by decide +kernel
theorem dX9_steps_27 : decode cX9_steps 27 = .ok (.istore_n 3, 1) := by decide +kernel
theorem dX9_steps_28 : decode cX9_steps 28 = .ok (.iconst 0, 1) := by decide +kernel
theorem dX9_steps_29 : decode cX9_steps 29 = .ok (.istore 4, 2) := by decide +kernel
theorem dX9_steps_31 : decode cX9_steps 31 = .ok (.iload_n 3, 1) := by decide +kernel
theorem dX9_steps_32 : decode cX9_steps 32 = .ok (.iload_n 2, 1) := by decide +kernel
theorem dX9_steps_33 : decode cX9_steps 33 = .ok (.irem, 1) := by decide +kernel
theorem dX9_steps_34 : decode cX9_steps 34 = .ok (.ifCond .eq 15, 3) := by decide +kernel
theorem dX9_steps_37 : decode cX9_steps 37 = .ok (.aload_n 0, 1) := by decide +kernel
theorem dX9_steps_38 : decode cX9_steps 38 = .ok (.iload_n 3, 1) := by decide +kernel
theorem dX9_steps_39 : decode cX9_steps 39 = .ok (.invokevirtual 104, 3) := by decide +kernel
theorem dX9_steps_42 : decode cX9_steps 42 = .ok (.istore_n 3, 1) := by decide +kernel
theorem dX9_steps_43 : decode cX9_steps 43 = .ok (.iinc 4 1, 3) := by decide +kernel
theorem dX9_steps_46 : decode cX9_steps 46 = .ok (.goto (-15), 3) := by decide +kernel
theorem dX9_steps_49 : decode cX9_steps 49 = .ok (.iload 4, 2) := by decide +kernel
theorem dX9_steps_51 : decode cX9_steps 51 = .ok (.ireturn, 1) := by decide +kernel
theorem dX9_swap_0 : decode cX9_swap 0 = .ok (.aload_n 0, 1) := by decide +kernel
theorem dX9_swap_1 : decode cX9_swap 1 = .ok (.iload_n 1, 1) := by decide +kernel
theorem dX9_swap_2 : decode cX9_swap 2 = .ok (.invokevirtual 78, 3) := by decide +kernel
theorem dX9_swap_5 : decode cX9_swap 5 = .ok (.ifCond .eq 11, 3) := by decide +kernel
theorem dX9_swap_8 : decode cX9_swap 8 = .ok (.aload_n 0, 1) := by decide +kernel
theorem dX9_swap_9 : decode cX9_swap 9 = .ok (.iload_n 2, 1) := by decide +kernel
theorem dX9_swap_10 : decode cX9_swap 10 = .ok (.invokevirtual 78, 3) := by decide +kernel
theorem dX9_swap_13 : decode cX9_swap 13 = .ok (.ifCond .ne 5, 3) := by decide +kernel
theorem dX9_swap_16 : decode cX9_swap 16 = .ok (.iconst (-1), 1) := by decide +kernel
theorem dX9_swap_17 : decode cX9_swap 17 = .ok (.ireturn, 1) := by decide +kernel
theorem dX9_swap_18 : decode cX9_swap 18 = .ok (.aload_n 0, 1) := by decide +kernel
theorem dX9_swap_19 : decode cX9_swap 19 = .ok (.getfield 35, 3) := by decide +kernel
theorem dX9_swap_22 : decode cX9_swap 22 = .ok (.iload_n 1, 1) := by decide +kernel
theorem dX9_swap_23 : decode cX9_swap 23 = .ok (.iaload, 1) := by decide +kernel
theorem dX9_swap_24 : decode cX9_swap 24 = .ok (.istore_n 3, 1) := by decide +kernel
theorem dX9_swap_25 : decode cX9_swap 25 = .ok (.aload_n 0, 1) := by decide +kernel
theorem dX9_swap_26 : decode cX9_swap 26 = .ok (.getfield 35, 3) := by decide +kernel
theorem dX9_swap_29 : decode cX9_swap 29 = .ok (.iload_n 1, 1) := by decide +kernel
theorem dX9_swap_30 : decode cX9_swap 30 = .ok (.aload_n 0, 1) := by decide +kernel
theorem dX9_swap_31 : decode cX9_swap 31 = .ok (.getfield 35, 3) := by decide +kernel
theorem dX9_swap_34 : decode cX9_swap 34 = .ok (.iload_n 2, 1) := by decide +kernel
theorem dX9_swap_35 : decode cX9_swap 35 = .ok (.iaload, 1) := by decide +kernel
theorem dX9_swap_36 : decode cX9_swap 36 = .ok (.iastore, 1) := by decide +kernel
theorem dX9_swap_37 : decode cX9_swap 37 = .ok (.aload_n 0, 1) := by decide +kernel
theorem dX9_swap_38 : decode cX9_swap 38 = .ok (.getfield 35, 3) := by decide +kernel
theorem dX9_swap_41 : decode cX9_swap 41 = .ok (.iload_n 2, 1) := by decide +kernel
theorem dX9_swap_42 : decode cX9_swap 42 = .ok (.iload_n 3, 1) := by decide +kernel
theorem dX9_swap_43 : decode cX9_swap 43 = .ok (.iastore, 1) := by decide +kernel
theorem dX9_swap_44 : decode cX9_swap 44 = .ok (.iconst 1, 1) := by decide +kernel
theorem dX9_swap_45 : decode cX9_swap 45 = .ok (.ireturn, 1) := by decide +kernel
theorem dX9_tell_0 : decode cX9_tell 0 = .ok (.aload_n 0, 1) := by decide +kernel
theorem dX9_tell_1 : decode cX9_tell 1 = .ok (.iload_n 1, 1) := by decide +kernel
theorem dX9_tell_2 : decode cX9_tell 2 = .ok (.invokevirtual 78, 3) := by decide +kernel
theorem dX9_tell_5 : decode cX9_tell 5 = .ok (.ifCond .ne 5, 3) := by decide +kernel
theorem dX9_tell_8 : decode cX9_tell 8 = .ok (.iconst (-1), 1) := by decide +kernel
theorem dX9_tell_9 : decode cX9_tell 9 = .ok (.ireturn, 1) := by decide +kernel
theorem dX9_tell_10 : decode cX9_tell 10 = .ok (.aload_n 0, 1) := by decide +kernel
theorem dX9_tell_11 : decode cX9_tell 11 = .ok (.getfield 35, 3) := by decide +kernel
theorem dX9_tell_14 : decode cX9_tell 14 = .ok (.iload_n 1, 1) := by decide +kernel
theorem dX9_tell_15 : decode cX9_tell 15 = .ok (.iaload, 1) := by decide +kernel
theorem dX9_tell_16 : decode cX9_tell 16 = .ok (.istore_n 3, 1) := by decide +kernel
theorem dX9_tell_17 : decode cX9_tell 17 = .ok (.aload_n 0, 1) := by decide +kernel
theorem dX9_tell_18 : decode cX9_tell 18 = .ok (.getfield 35, 3) := by decide +kernel
theorem dX9_tell_21 : decode cX9_tell 21 = .ok (.iload_n 1, 1) := by decide +kernel
theorem dX9_tell_22 : decode cX9_tell 22 = .ok (.iload_n 2, 1) := by decide +kernel
theorem dX9_tell_23 : decode cX9_tell 23 = .ok (.iastore, 1) := by decide +kernel
theorem dX9_tell_24 : decode cX9_tell 24 = .ok (.iload_n 3, 1) := by decide +kernel
theorem dX9_tell_25 : decode cX9_tell 25 = .ok (.ireturn, 1) := by decide +kernel
theorem dX9_judge_0 : decode cX9_judge 0 = .ok (.iconst 0, 1) := by decide +kernel
theorem dX9_judge_1 : decode cX9_judge 1 = .ok (.istore_n 1, 1) := by decide +kernel
theorem dX9_judge_2 : decode cX9_judge 2 = .ok (.iload_n 1, 1) := by decide +kernel
theorem dX9_judge_3 : decode cX9_judge 3 = .ok (.aload_n 0, 1) := by decide +kernel
theorem dX9_judge_4 : decode cX9_judge 4 = .ok (.getfield 48, 3) := by decide +kernel
theorem dX9_judge_7 : decode cX9_judge 7 = .ok (.if_icmp .ge 16, 3) := by decide +kernel
theorem dX9_judge_10 : decode cX9_judge 10 = .ok (.aload_n 0, 1) := by decide +kernel
theorem dX9_judge_11 : decode cX9_judge 11 = .ok (.getfield 44, 3) := by decide +kernel
theorem dX9_judge_14 : decode cX9_judge 14 = .ok (.iload_n 1, 1) := by decide +kernel
theorem dX9_judge_15 : decode cX9_judge 15 = .ok (.iconst 0, 1) := by decide +kernel
theorem dX9_judge_16 : decode cX9_judge 16 = .ok (.bastore, 1) := by decide +kernel
theorem dX9_judge_17 : decode cX9_judge 17 = .ok (.iinc 1 1, 3) := by decide +kernel
theorem dX9_judge_20 : decode cX9_judge 20 = .ok (.goto (-18), 3) := by decide +kernel
theorem dX9_judge_23 : decode cX9_judge 23 = .ok (.iconst 0, 1) := by decide +kernel
theorem dX9_judge_24 : decode cX9_judge 24 = .ok (.istore_n 1, 1) := by decide +kernel
theorem dX9_judge_25 : decode cX9_judge 25 = .ok (.iload_n 1, 1) := by decide +kernel
theorem dX9_judge_26 : decode cX9_judge 26 = .ok (.aload_n 0, 1) := by decide +kernel
theorem dX9_judge_27 : decode cX9_judge 27 = .ok (.getfield 48, 3) := by decide +kernel
theorem dX9_judge_30 : decode cX9_judge 30 = .ok (.if_icmp .ge 68, 3) := by decide +kernel
theorem dX9_judge_33 : decode cX9_judge 33 = .ok (.aload_n 0, 1) := by decide +kernel
theorem dX9_judge_34 : decode cX9_judge 34 = .ok (.getfield 35, 3) := by decide +kernel
theorem dX9_judge_37 : decode cX9_judge 37 = .ok (.iload_n 1, 1) := by decide +kernel
theorem dX9_judge_38 : decode cX9_judge 38 = .ok (.iaload, 1) := by decide +kernel
theorem dX9_judge_39 : decode cX9_judge 39 = .ok (.istore_n 2, 1) := by decide +kernel
theorem dX9_judge_40 : decode cX9_judge 40 = .ok (.aload_n 0, 1) := by decide +kernel
theorem dX9_judge_41 : decode cX9_judge 41 = .ok (.iload_n 2, 1) := by decide +kernel
theorem dX9_judge_42 : decode cX9_judge 42 = .ok (.invokevirtual 78, 3) := by decide +kernel
theorem dX9_judge_45 : decode cX9_judge 45 = .ok (.ifCond .eq 38, 3) := by decide +kernel
theorem dX9_judge_48 : decode cX9_judge 48 = .ok (.aload_n 0, 1) := by decide +kernel
theorem dX9_judge_49 : decode cX9_judge 49 = .ok (.getfield 44, 3) := by decide +kernel
theorem dX9_judge_52 : decode cX9_judge 52 = .ok (.iload_n 2, 1) := by decide +kernel
theorem dX9_judge_53 : decode cX9_judge 53 = .ok (.baload, 1) := by decide +kernel
theorem dX9_judge_54 : decode cX9_judge 54 = .ok (.ifCond .ne 29, 3) := by decide +kernel
theorem dX9_judge_57 : decode cX9_judge 57 = .ok (.iload_n 1, 1) := by decide +kernel
theorem dX9_judge_58 : decode cX9_judge 58 = .ok (.ifCond .le 27, 3) := by decide +kernel
theorem dX9_judge_61 : decode cX9_judge 61 = .ok (.aload_n 0, 1) := by decide +kernel
theorem dX9_judge_62 : decode cX9_judge 62 = .ok (.getfield 32, 3) := by decide +kernel
theorem dX9_judge_65 : decode cX9_judge 65 = .ok (.aload_n 0, 1) := by decide +kernel
theorem dX9_judge_66 : decode cX9_judge 66 = .ok (.getfield 35, 3) := by decide +kernel
theorem dX9_judge_69 : decode cX9_judge 69 = .ok (.iload_n 1, 1) := by decide +kernel
theorem dX9_judge_70 : decode cX9_judge 70 = .ok (.iconst 1, 1) := by decide +kernel
theorem dX9_judge_71 : decode cX9_judge 71 = .ok (.isub, 1) := by decide +kernel
theorem dX9_judge_72 : decode cX9_judge 72 = .ok (.iaload, 1) := by decide +kernel
theorem dX9_judge_73 : decode cX9_judge 73 = .ok (.iaload, 1) := by decide +kernel
theorem dX9_judge_74 : decode cX9_judge 74 = .ok (.aload_n 0, 1) := by decide +kernel
theorem dX9_judge_75 : decode cX9_judge 75 = .ok (.getfield 32, 3) := by decide +kernel
theorem dX9_judge_78 : decode cX9_judge 78 = .ok (.iload_n 2, 1) := by decide +kernel
theorem dX9_judge_79 : decode cX9_judge 79 = .ok (.iaload, 1) := by decide +kernel
theorem dX9_judge_80 : decode cX9_judge 80 = .ok (.if_icmp .le 5, 3) := by decide +kernel
theorem dX9_judge_83 : decode cX9_judge 83 = .ok (.iload_n 1, 1) := by decide +kernel
theorem dX9_judge_84 : decode cX9_judge 84 = .ok (.ireturn, 1) := by decide +kernel
theorem dX9_judge_85 : decode cX9_judge 85 = .ok (.aload_n 0, 1) := by decide +kernel
theorem dX9_judge_86 : decode cX9_judge 86 = .ok (.getfield 44, 3) := by decide +kernel
theorem dX9_judge_89 : decode cX9_judge 89 = .ok (.iload_n 2, 1) := by decide +kernel
theorem dX9_judge_90 : decode cX9_judge 90 = .ok (.iconst 1, 1) := by decide +kernel
theorem dX9_judge_91 : decode cX9_judge 91 = .ok (.bastore, 1) := by decide +kernel
theorem dX9_judge_92 : decode cX9_judge 92 = .ok (.iinc 1 1, 3) := by decide +kernel
theorem dX9_judge_95 : decode cX9_judge 95 = .ok (.goto (-70), 3) := by decide +kernel
theorem dX9_judge_98 : decode cX9_judge 98 = .ok (.aload_n 0, 1) := by decide +kernel
theorem dX9_judge_99 : decode cX9_judge 99 = .ok (.getfield 48, 3) := by decide +kernel
theorem dX9_judge_102 : decode cX9_judge 102 = .ok (.ireturn, 1) := by decide +kernel
end
section
theorem dL_law_0 : decode cL_law 0 = .ok (.new 7, 3) := by decide +kernel
theorem dL_law_3 : decode cL_law 3 = .ok (.dup, 1) := by decide +kernel
theorem dL_law_4 : decode cL_law 4 = .ok (.invokespecial 9, 3) := by decide +kernel
theorem dL_law_7 : decode cL_law 7 = .ok (.astore_n 1, 1) := by decide +kernel
theorem dL_law_8 : decode cL_law 8 = .ok (.new 10, 3) := by decide +kernel
theorem dL_law_11 : decode cL_law 11 = .ok (.dup, 1) := by decide +kernel
theorem dL_law_12 : decode cL_law 12 = .ok (.invokespecial 12, 3) := by decide +kernel
theorem dL_law_15 : decode cL_law 15 = .ok (.astore_n 2, 1) := by decide +kernel
theorem dL_law_16 : decode cL_law 16 = .ok (.iconst 0, 1) := by decide +kernel
theorem dL_law_17 : decode cL_law 17 = .ok (.istore_n 3, 1) := by decide +kernel
theorem dL_law_18 : decode cL_law 18 = .ok (.iload_n 3, 1) := by decide +kernel
theorem dL_law_19 : decode cL_law 19 = .ok (.aload_n 0, 1) := by decide +kernel
theorem dL_law_20 : decode cL_law 20 = .ok (.arraylength, 1) := by decide +kernel
theorem dL_law_21 : decode cL_law 21 = .ok (.bipush 6, 2) := by decide +kernel
theorem dL_law_23 : decode cL_law 23 = .ok (.isub, 1) := by decide +kernel
theorem dL_law_24 : decode cL_law 24 = .ok (.if_icmp .gt 809, 3) := by decide +kernel
theorem dL_law_27 : decode cL_law 27 = .ok (.aload_n 0, 1) := by decide +kernel
theorem dL_law_28 : decode cL_law 28 = .ok (.iload_n 3, 1) := by decide +kernel
theorem dL_law_29 : decode cL_law 29 = .ok (.iaload, 1) := by decide +kernel
theorem dL_law_30 : decode cL_law 30 = .ok (.bipush 31, 2) := by decide +kernel
theorem dL_law_32 : decode cL_law 32 = .ok (.iand, 1) := by decide +kernel
theorem dL_law_33 : decode cL_law 33 = .ok (.tableswitch 794 0 23 #[111, 174, 207, 220, 243, 276, 299, 322, 345, 378, 411, 464, 477, 500, 523, 537, 570, 603, 636, 659, 682, 715, 748, 781], 111) := by decide +kernel
theorem dL_law_144 : decode cL_law 144 = .ok (.aload_n 1, 1) := by decide +kernel
theorem dL_law_145 : decode cL_law 145 = .ok (.aload_n 0, 1) := by decide +kernel
theorem dL_law_146 : decode cL_law 146 = .ok (.iload_n 3, 1) := by decide +kernel
theorem dL_law_147 : decode cL_law 147 = .ok (.iconst 1, 1) := by decide +kernel
theorem dL_law_148 : decode cL_law 148 = .ok (.iadd, 1) := by decide +kernel
theorem dL_law_149 : decode cL_law 149 = .ok (.iaload, 1) := by decide +kernel
theorem dL_law_150 : decode cL_law 150 = .ok (.aload_n 0, 1) := by decide +kernel
theorem dL_law_151 : decode cL_law 151 = .ok (.iload_n 3, 1) := by decide +kernel
theorem dL_law_152 : decode cL_law 152 = .ok (.iconst 2, 1) := by decide +kernel
theorem dL_law_153 : decode cL_law 153 = .ok (.iadd, 1) := by decide +kernel
theorem dL_law_154 : decode cL_law 154 = .ok (.iaload, 1) := by decide +kernel
theorem dL_law_155 : decode cL_law 155 = .ok (.aload_n 0, 1) := by decide +kernel
theorem dL_law_156 : decode cL_law 156 = .ok (.iload_n 3, 1) := by decide +kernel
theorem dL_law_157 : decode cL_law 157 = .ok (.iconst 3, 1) := by decide +kernel
theorem dL_law_158 : decode cL_law 158 = .ok (.iadd, 1) := by decide +kernel
theorem dL_law_159 : decode cL_law 159 = .ok (.iaload, 1) := by decide +kernel
theorem dL_law_160 : decode cL_law 160 = .ok (.aload_n 0, 1) := by decide +kernel
theorem dL_law_161 : decode cL_law 161 = .ok (.iload_n 3, 1) := by decide +kernel
theorem dL_law_162 : decode cL_law 162 = .ok (.iconst 4, 1) := by decide +kernel
theorem dL_law_163 : decode cL_law 163 = .ok (.iadd, 1) := by decide +kernel
theorem dL_law_164 : decode cL_law 164 = .ok (.iaload, 1) := by decide +kernel
theorem dL_law_165 : decode cL_law 165 = .ok (.aload_n 0, 1) := by decide +kernel
theorem dL_law_166 : decode cL_law 166 = .ok (.iload_n 3, 1) := by decide +kernel
theorem dL_law_167 : decode cL_law 167 = .ok (.iconst 5, 1) := by decide +kernel
theorem dL_law_168 : decode cL_law 168 = .ok (.iadd, 1) := by decide +kernel
theorem dL_law_169 : decode cL_law 169 = .ok (.iaload, 1) := by decide +kernel
theorem dL_law_170 : decode cL_law 170 = .ok (.invokevirtual 13, 3) := by decide +kernel
theorem dL_law_173 : decode cL_law 173 = .ok (.aload_n 2, 1) := by decide +kernel
theorem dL_law_174 : decode cL_law 174 = .ok (.aload_n 0, 1) := by decide +kernel
theorem dL_law_175 : decode cL_law 175 = .ok (.iload_n 3, 1) := by decide +kernel
theorem dL_law_176 : decode cL_law 176 = .ok (.iconst 1, 1) := by decide +kernel
theorem dL_law_177 : decode cL_law 177 = .ok (.iadd, 1) := by decide +kernel
theorem dL_law_178 : decode cL_law 178 = .ok (.iaload, 1) := by decide +kernel
theorem dL_law_179 : decode cL_law 179 = .ok (.aload_n 0, 1) := by decide +kernel
theorem dL_law_180 : decode cL_law 180 = .ok (.iload_n 3, 1) := by decide +kernel
theorem dL_law_181 : decode cL_law 181 = .ok (.iconst 2, 1) := by decide +kernel
theorem dL_law_182 : decode cL_law 182 = .ok (.iadd, 1) := by decide +kernel
theorem dL_law_183 : decode cL_law 183 = .ok (.iaload, 1) := by decide +kernel
theorem dL_law_184 : decode cL_law 184 = .ok (.aload_n 0, 1) := by decide +kernel
theorem dL_law_185 : decode cL_law 185 = .ok (.iload_n 3, 1) := by decide +kernel
theorem dL_law_186 : decode cL_law 186 = .ok (.iconst 3, 1) := by decide +kernel
theorem dL_law_187 : decode cL_law 187 = .ok (.iadd, 1) := by decide +kernel
theorem dL_law_188 : decode cL_law 188 = .ok (.iaload, 1) := by decide +kernel
theorem dL_law_189 : decode cL_law 189 = .ok (.aload_n 0, 1) := by decide +kernel
theorem dL_law_190 : decode cL_law 190 = .ok (.iload_n 3, 1) := by decide +kernel
theorem dL_law_191 : decode cL_law 191 = .ok (.iconst 4, 1) := by decide +kernel
theorem dL_law_192 : decode cL_law 192 = .ok (.iadd, 1) := by decide +kernel
theorem dL_law_193 : decode cL_law 193 = .ok (.iaload, 1) := by decide +kernel
theorem dL_law_194 : decode cL_law 194 = .ok (.aload_n 0, 1) := by decide +kernel
theorem dL_law_195 : decode cL_law 195 = .ok (.iload_n 3, 1) := by decide +kernel
theorem dL_law_196 : decode cL_law 196 = .ok (.iconst 5, 1) := by decide +kernel
theorem dL_law_197 : decode cL_law 197 = .ok (.iadd, 1) := by decide +kernel
theorem dL_law_198 : decode cL_law 198 = .ok (.iaload, 1) := by decide +kernel
theorem dL_law_199 : decode cL_law 199 = .ok (.invokevirtual 17, 3) := by decide +kernel
theorem dL_law_202 : decode cL_law 202 = .ok (.if_icmp .eq 625, 3) := by decide +kernel
theorem dL_law_205 : decode cL_law 205 = .ok (.iconst 0, 1) := by decide +kernel
theorem dL_law_206 : decode cL_law 206 = .ok (.ireturn, 1) := by decide +kernel
theorem dL_law_207 : decode cL_law 207 = .ok (.aload_n 1, 1) := by decide +kernel
theorem dL_law_208 : decode cL_law 208 = .ok (.aload_n 0, 1) := by decide +kernel
theorem dL_law_209 : decode cL_law 209 = .ok (.iload_n 3, 1) := by decide +kernel
theorem dL_law_210 : decode cL_law 210 = .ok (.iconst 1, 1) := by decide +kernel
theorem dL_law_211 : decode cL_law 211 = .ok (.iadd, 1) := by decide +kernel
theorem dL_law_212 : decode cL_law 212 = .ok (.iaload, 1) := by decide +kernel
theorem dL_law_213 : decode cL_law 213 = .ok (.aload_n 0, 1) := by decide +kernel
theorem dL_law_214 : decode cL_law 214 = .ok (.iload_n 3, 1) := by decide +kernel
theorem dL_law_215 : decode cL_law 215 = .ok (.iconst 2, 1) := by decide +kernel
theorem dL_law_216 : decode cL_law 216 = .ok (.iadd, 1) := by decide +kernel
theorem dL_law_217 : decode cL_law 217 = .ok (.iaload, 1) := by decide +kernel
theorem dL_law_218 : decode cL_law 218 = .ok (.invokevirtual 18, 3) := by decide +kernel
theorem dL_law_221 : decode cL_law 221 = .ok (.aload_n 2, 1) := by decide +kernel
theorem dL_law_222 : decode cL_law 222 = .ok (.aload_n 0, 1) := by decide +kernel
theorem dL_law_223 : decode cL_law 223 = .ok (.iload_n 3, 1) := by decide +kernel
theorem dL_law_224 : decode cL_law 224 = .ok (.iconst 1, 1) := by decide +kernel
theorem dL_law_225 : decode cL_law 225 = .ok (.iadd, 1) := by decide +kernel
theorem dL_law_226 : decode cL_law 226 = .ok (.iaload, 1) := by decide +kernel
theorem dL_law_227 : decode cL_law 227 = .ok (.aload_n 0, 1) := by decide +kernel
theorem dL_law_228 : decode cL_law 228 = .ok (.iload_n 3, 1) := by decide +kernel
theorem dL_law_229 : decode cL_law 229 = .ok (.iconst 2, 1) := by decide +kernel
theorem dL_law_230 : decode cL_law 230 = .ok (.iadd, 1) := by decide +kernel
theorem dL_law_231 : decode cL_law 231 = .ok (.iaload, 1) := by decide +kernel
theorem dL_law_232 : decode cL_law 232 = .ok (.invokevirtual 22, 3) := by decide +kernel
theorem dL_law_235 : decode cL_law 235 = .ok (.if_icmp .eq 592, 3) := by decide +kernel
theorem dL_law_238 : decode cL_law 238 = .ok (.iconst 0, 1) := by decide +kernel
theorem dL_law_239 : decode cL_law 239 = .ok (.ireturn, 1) := by decide +kernel
theorem dL_law_240 : decode cL_law 240 = .ok (.aload_n 1, 1) := by decide +kernel
theorem dL_law_241 : decode cL_law 241 = .ok (.invokevirtual 23, 3) := by decide +kernel
theorem dL_law_244 : decode cL_law 244 = .ok (.aload_n 2, 1) := by decide +kernel
theorem dL_law_245 : decode cL_law 245 = .ok (.invokevirtual 27, 3) := by decide +kernel
theorem dL_law_248 : decode cL_law 248 = .ok (.if_icmp .eq 579, 3) := by decide +kernel
theorem dL_law_251 : decode cL_law 251 = .ok (.iconst 0, 1) := by decide +kernel
theorem dL_law_252 : decode cL_law 252 = .ok (.ireturn, 1) := by decide +kernel
theorem dL_law_253 : decode cL_law 253 = .ok (.aload_n 1, 1) := by decide +kernel
theorem dL_law_254 : decode cL_law 254 = .ok (.aload_n 0, 1) := by decide +kernel
theorem dL_law_255 : decode cL_law 255 = .ok (.iload_n 3, 1) := by decide +kernel
theorem dL_law_256 : decode cL_law 256 = .ok (.iconst 1, 1) := by decide +kernel
theorem dL_law_257 : decode cL_law 257 = .ok (.iadd, 1) := by decide +kernel
theorem dL_law_258 : decode cL_law 258 = .ok (.iaload, 1) := by decide +kernel
theorem dL_law_259 : decode cL_law 259 = .ok (.invokevirtual 28, 3) := by decide +kernel
theorem dL_law_262 : decode cL_law 262 = .ok (.aload_n 2, 1) := by decide +kernel
theorem dL_law_263 : decode cL_law 263 = .ok (.aload_n 0, 1) := by decide +kernel
theorem dL_law_264 : decode cL_law 264 = .ok (.iload_n 3, 1) := by decide +kernel
theorem dL_law_265 : decode cL_law 265 = .ok (.iconst 1, 1) := by decide +kernel
theorem dL_law_266 : decode cL_law 266 = .ok (.iadd, 1) := by decide +kernel
theorem dL_law_267 : decode cL_law 267 = .ok (.iaload, 1) := by decide +kernel
theorem dL_law_268 : decode cL_law 268 = .ok (.invokevirtual 32, 3) := by decide +kernel
theorem dL_law_271 : decode cL_law 271 = .ok (.if_icmp .eq 556, 3) := by decide +kernel
theorem dL_law_274 : decode cL_law 274 = .ok (.iconst 0, 1) := by decide +kernel
theorem dL_law_275 : decode cL_law 275 = .ok (.ireturn, 1) := by decide +kernel
theorem dL_law_276 : decode cL_law 276 = .ok (.aload_n 1, 1) := by decide +kernel
theorem dL_law_277 : decode cL_law 277 = .ok (.aload_n 0, 1) := by decide +kernel
theorem dL_law_278 : decode cL_law 278 = .ok (.iload_n 3, 1) := by decide +kernel
theorem dL_law_279 : decode cL_law 279 = .ok (.iconst 1, 1) := by decide +kernel
theorem dL_law_280 : decode cL_law 280 = .ok (.iadd, 1) := by decide +kernel
theorem dL_law_281 : decode cL_law 281 = .ok (.iaload, 1) := by decide +kernel
theorem dL_law_282 : decode cL_law 282 = .ok (.aload_n 0, 1) := by decide +kernel
theorem dL_law_283 : decode cL_law 283 = .ok (.iload_n 3, 1) := by decide +kernel
theorem dL_law_284 : decode cL_law 284 = .ok (.iconst 2, 1) := by decide +kernel
theorem dL_law_285 : decode cL_law 285 = .ok (.iadd, 1) := by decide +kernel
theorem dL_law_286 : decode cL_law 286 = .ok (.iaload, 1) := by decide +kernel
theorem dL_law_287 : decode cL_law 287 = .ok (.invokevirtual 33, 3) := by decide +kernel
theorem dL_law_290 : decode cL_law 290 = .ok (.aload_n 2, 1) := by decide +kernel
theorem dL_law_291 : decode cL_law 291 = .ok (.aload_n 0, 1) := by decide +kernel
theorem dL_law_292 : decode cL_law 292 = .ok (.iload_n 3, 1) := by decide +kernel
theorem dL_law_293 : decode cL_law 293 = .ok (.iconst 1, 1) := by decide +kernel
theorem dL_law_294 : decode cL_law 294 = .ok (.iadd, 1) := by decide +kernel
theorem dL_law_295 : decode cL_law 295 = .ok (.iaload, 1) := by decide +kernel
theorem dL_law_296 : decode cL_law 296 = .ok (.aload_n 0, 1) := by decide +kernel
theorem dL_law_297 : decode cL_law 297 = .ok (.iload_n 3, 1) := by decide +kernel
theorem dL_law_298 : decode cL_law 298 = .ok (.iconst 2, 1) := by decide +kernel
theorem dL_law_299 : decode cL_law 299 = .ok (.iadd, 1) := by decide +kernel
theorem dL_law_300 : decode cL_law 300 = .ok (.iaload, 1) := by decide +kernel
theorem dL_law_301 : decode cL_law 301 = .ok (.invokevirtual 36, 3) := by decide +kernel
theorem dL_law_304 : decode cL_law 304 = .ok (.if_icmp .eq 523, 3) := by decide +kernel
theorem dL_law_307 : decode cL_law 307 = .ok (.iconst 0, 1) := by decide +kernel
theorem dL_law_308 : decode cL_law 308 = .ok (.ireturn, 1) := by decide +kernel
theorem dL_law_309 : decode cL_law 309 = .ok (.aload_n 1, 1) := by decide +kernel
theorem dL_law_310 : decode cL_law 310 = .ok (.aload_n 0, 1) := by decide +kernel
theorem dL_law_311 : decode cL_law 311 = .ok (.iload_n 3, 1) := by decide +kernel
theorem dL_law_312 : decode cL_law 312 = .ok (.iconst 1, 1) := by decide +kernel
theorem dL_law_313 : decode cL_law 313 = .ok (.iadd, 1) := by decide +kernel
theorem dL_law_314 : decode cL_law 314 = .ok (.iaload, 1) := by decide +kernel
theorem dL_law_315 : decode cL_law 315 = .ok (.invokevirtual 37, 3) := by decide +kernel
theorem dL_law_318 : decode cL_law 318 = .ok (.aload_n 2, 1) := by decide +kernel
theorem dL_law_319 : decode cL_law 319 = .ok (.aload_n 0, 1) := by decide +kernel
theorem dL_law_320 : decode cL_law 320 = .ok (.iload_n 3, 1) := by decide +kernel
theorem dL_law_321 : decode cL_law 321 = .ok (.iconst 1, 1) := by decide +kernel
theorem dL_law_322 : decode cL_law 322 = .ok (.iadd, 1) := by decide +kernel
theorem dL_law_323 : decode cL_law 323 = .ok (.iaload, 1) := by decide +kernel
theorem dL_law_324 : decode cL_law 324 = .ok (.invokevirtual 40, 3) := by decide +kernel
theorem dL_law_327 : decode cL_law 327 = .ok (.if_icmp .eq 500, 3) := by decide +kernel
theorem dL_law_330 : decode cL_law 330 = .ok (.iconst 0, 1) := by decide +kernel
theorem dL_law_331 : decode cL_law 331 = .ok (.ireturn, 1) := by decide +kernel
theorem dL_law_332 : decode cL_law 332 = .ok (.aload_n 1, 1) := by decide +kernel
theorem dL_law_333 : decode cL_law 333 = .ok (.aload_n 0, 1) := by decide +kernel
theorem dL_law_334 : decode cL_law 334 = .ok (.iload_n 3, 1) := by decide +kernel
theorem dL_law_335 : decode cL_law 335 = .ok (.iconst 1, 1) := by decide +kernel
theorem dL_law_336 : decode cL_law 336 = .ok (.iadd, 1) := by decide +kernel
theorem dL_law_337 : decode cL_law 337 = .ok (.iaload, 1) := by decide +kernel
theorem dL_law_338 : decode cL_law 338 = .ok (.invokevirtual 41, 3) := by decide +kernel
theorem dL_law_341 : decode cL_law 341 = .ok (.aload_n 2, 1) := by decide +kernel
theorem dL_law_342 : decode cL_law 342 = .ok (.aload_n 0, 1) := by decide +kernel
theorem dL_law_343 : decode cL_law 343 = .ok (.iload_n 3, 1) := by decide +kernel
theorem dL_law_344 : decode cL_law 344 = .ok (.iconst 1, 1) := by decide +kernel
theorem dL_law_345 : decode cL_law 345 = .ok (.iadd, 1) := by decide +kernel
theorem dL_law_346 : decode cL_law 346 = .ok (.iaload, 1) := by decide +kernel
theorem dL_law_347 : decode cL_law 347 = .ok (.invokevirtual 44, 3) := by decide +kernel
theorem dL_law_350 : decode cL_law 350 = .ok (.if_icmp .eq 477, 3) := by decide +kernel
theorem dL_law_353 : decode cL_law 353 = .ok (.iconst 0, 1) := by decide +kernel
theorem dL_law_354 : decode cL_law 354 = .ok (.ireturn, 1) := by decide +kernel
theorem dL_law_355 : decode cL_law 355 = .ok (.aload_n 1, 1) := by decide +kernel
theorem dL_law_356 : decode cL_law 356 = .ok (.aload_n 0, 1) := by decide +kernel
theorem dL_law_357 : decode cL_law 357 = .ok (.iload_n 3, 1) := by decide +kernel
theorem dL_law_358 : decode cL_law 358 = .ok (.iconst 1, 1) := by decide +kernel
theorem dL_law_359 : decode cL_law 359 = .ok (.iadd, 1) := by decide +kernel
theorem dL_law_360 : decode cL_law 360 = .ok (.iaload, 1) := by decide +kernel
theorem dL_law_361 : decode cL_law 361 = .ok (.invokevirtual 45, 3) := by decide +kernel
theorem dL_law_364 : decode cL_law 364 = .ok (.aload_n 2, 1) := by decide +kernel
theorem dL_law_365 : decode cL_law 365 = .ok (.aload_n 0, 1) := by decide +kernel
theorem dL_law_366 : decode cL_law 366 = .ok (.iload_n 3, 1) := by decide +kernel
theorem dL_law_367 : decode cL_law 367 = .ok (.iconst 1, 1) := by decide +kernel
theorem dL_law_368 : decode cL_law 368 = .ok (.iadd, 1) := by decide +kernel
theorem dL_law_369 : decode cL_law 369 = .ok (.iaload, 1) := by decide +kernel
theorem dL_law_370 : decode cL_law 370 = .ok (.invokevirtual 48, 3) := by decide +kernel
theorem dL_law_373 : decode cL_law 373 = .ok (.if_icmp .eq 454, 3) := by decide +kernel
theorem dL_law_376 : decode cL_law 376 = .ok (.iconst 0, 1) := by decide +kernel
theorem dL_law_377 : decode cL_law 377 = .ok (.ireturn, 1) := by decide +kernel
theorem dL_law_378 : decode cL_law 378 = .ok (.aload_n 1, 1) := by decide +kernel
theorem dL_law_379 : decode cL_law 379 = .ok (.aload_n 0, 1) := by decide +kernel
theorem dL_law_380 : decode cL_law 380 = .ok (.iload_n 3, 1) := by decide +kernel
theorem dL_law_381 : decode cL_law 381 = .ok (.iconst 1, 1) := by decide +kernel
theorem dL_law_382 : decode cL_law 382 = .ok (.iadd, 1) := by decide +kernel
theorem dL_law_383 : decode cL_law 383 = .ok (.iaload, 1) := by decide +kernel
theorem dL_law_384 : decode cL_law 384 = .ok (.aload_n 0, 1) := by decide +kernel
theorem dL_law_385 : decode cL_law 385 = .ok (.iload_n 3, 1) := by decide +kernel
theorem dL_law_386 : decode cL_law 386 = .ok (.iconst 2, 1) := by decide +kernel
theorem dL_law_387 : decode cL_law 387 = .ok (.iadd, 1) := by decide +kernel
theorem dL_law_388 : decode cL_law 388 = .ok (.iaload, 1) := by decide +kernel
theorem dL_law_389 : decode cL_law 389 = .ok (.invokevirtual 49, 3) := by decide +kernel
theorem dL_law_392 : decode cL_law 392 = .ok (.aload_n 2, 1) := by decide +kernel
theorem dL_law_393 : decode cL_law 393 = .ok (.aload_n 0, 1) := by decide +kernel
theorem dL_law_394 : decode cL_law 394 = .ok (.iload_n 3, 1) := by decide +kernel
theorem dL_law_395 : decode cL_law 395 = .ok (.iconst 1, 1) := by decide +kernel
theorem dL_law_396 : decode cL_law 396 = .ok (.iadd, 1) := by decide +kernel
theorem dL_law_397 : decode cL_law 397 = .ok (.iaload, 1) := by decide +kernel
theorem dL_law_398 : decode cL_law 398 = .ok (.aload_n 0, 1) := by decide +kernel
theorem dL_law_399 : decode cL_law 399 = .ok (.iload_n 3, 1) := by decide +kernel
theorem dL_law_400 : decode cL_law 400 = .ok (.iconst 2, 1) := by decide +kernel
theorem dL_law_401 : decode cL_law 401 = .ok (.iadd, 1) := by decide +kernel
theorem dL_law_402 : decode cL_law 402 = .ok (.iaload, 1) := by decide +kernel
theorem dL_law_403 : decode cL_law 403 = .ok (.invokevirtual 52, 3) := by decide +kernel
theorem dL_law_406 : decode cL_law 406 = .ok (.if_icmp .eq 421, 3) := by decide +kernel
theorem dL_law_409 : decode cL_law 409 = .ok (.iconst 0, 1) := by decide +kernel
theorem dL_law_410 : decode cL_law 410 = .ok (.ireturn, 1) := by decide +kernel
theorem dL_law_411 : decode cL_law 411 = .ok (.aload_n 1, 1) := by decide +kernel
theorem dL_law_412 : decode cL_law 412 = .ok (.aload_n 0, 1) := by decide +kernel
theorem dL_law_413 : decode cL_law 413 = .ok (.iload_n 3, 1) := by decide +kernel
theorem dL_law_414 : decode cL_law 414 = .ok (.iconst 1, 1) := by decide +kernel
theorem dL_law_415 : decode cL_law 415 = .ok (.iadd, 1) := by decide +kernel
theorem dL_law_416 : decode cL_law 416 = .ok (.iaload, 1) := by decide +kernel
theorem dL_law_417 : decode cL_law 417 = .ok (.aload_n 0, 1) := by decide +kernel
theorem dL_law_418 : decode cL_law 418 = .ok (.iload_n 3, 1) := by decide +kernel
theorem dL_law_419 : decode cL_law 419 = .ok (.iconst 2, 1) := by decide +kernel
theorem dL_law_420 : decode cL_law 420 = .ok (.iadd, 1) := by decide +kernel
theorem dL_law_421 : decode cL_law 421 = .ok (.iaload, 1) := by decide +kernel
theorem dL_law_422 : decode cL_law 422 = .ok (.invokevirtual 53, 3) := by decide +kernel
theorem dL_law_425 : decode cL_law 425 = .ok (.aload_n 2, 1) := by decide +kernel
theorem dL_law_426 : decode cL_law 426 = .ok (.aload_n 0, 1) := by decide +kernel
theorem dL_law_427 : decode cL_law 427 = .ok (.iload_n 3, 1) := by decide +kernel
theorem dL_law_428 : decode cL_law 428 = .ok (.iconst 1, 1) := by decide +kernel
theorem dL_law_429 : decode cL_law 429 = .ok (.iadd, 1) := by decide +kernel
theorem dL_law_430 : decode cL_law 430 = .ok (.iaload, 1) := by decide +kernel
theorem dL_law_431 : decode cL_law 431 = .ok (.aload_n 0, 1) := by decide +kernel
theorem dL_law_432 : decode cL_law 432 = .ok (.iload_n 3, 1) := by decide +kernel
theorem dL_law_433 : decode cL_law 433 = .ok (.iconst 2, 1) := by decide +kernel
theorem dL_law_434 : decode cL_law 434 = .ok (.iadd, 1) := by decide +kernel
theorem dL_law_435 : decode cL_law 435 = .ok (.iaload, 1) := by decide +kernel
theorem dL_law_436 : decode cL_law 436 = .ok (.invokevirtual 56, 3) := by decide +kernel
theorem dL_law_439 : decode cL_law 439 = .ok (.if_icmp .eq 388, 3) := by decide +kernel
theorem dL_law_442 : decode cL_law 442 = .ok (.iconst 0, 1) := by decide +kernel
theorem dL_law_443 : decode cL_law 443 = .ok (.ireturn, 1) := by decide +kernel
theorem dL_law_444 : decode cL_law 444 = .ok (.aload_n 1, 1) := by decide +kernel
theorem dL_law_445 : decode cL_law 445 = .ok (.aload_n 0, 1) := by decide +kernel
theorem dL_law_446 : decode cL_law 446 = .ok (.iload_n 3, 1) := by decide +kernel
theorem dL_law_447 : decode cL_law 447 = .ok (.iconst 1, 1) := by decide +kernel
theorem dL_law_448 : decode cL_law 448 = .ok (.iadd, 1) := by decide +kernel
theorem dL_law_449 : decode cL_law 449 = .ok (.iaload, 1) := by decide +kernel
theorem dL_law_450 : decode cL_law 450 = .ok (.aload_n 0, 1) := by decide +kernel
theorem dL_law_451 : decode cL_law 451 = .ok (.iload_n 3, 1) := by decide +kernel
theorem dL_law_452 : decode cL_law 452 = .ok (.iconst 2, 1) := by decide +kernel
theorem dL_law_453 : decode cL_law 453 = .ok (.iadd, 1) := by decide +kernel
theorem dL_law_454 : decode cL_law 454 = .ok (.iaload, 1) := by decide +kernel
theorem dL_law_455 : decode cL_law 455 = .ok (.aload_n 0, 1) := by decide +kernel
theorem dL_law_456 : decode cL_law 456 = .ok (.iload_n 3, 1) := by decide +kernel
theorem dL_law_457 : decode cL_law 457 = .ok (.iconst 3, 1) := by decide +kernel
theorem dL_law_458 : decode cL_law 458 = .ok (.iadd, 1) := by decide +kernel
theorem dL_law_459 : decode cL_law 459 = .ok (.iaload, 1) := by decide +kernel
theorem dL_law_460 : decode cL_law 460 = .ok (.aload_n 0, 1) := by decide +kernel
theorem dL_law_461 : decode cL_law 461 = .ok (.iload_n 3, 1) := by decide +kernel
theorem dL_law_462 : decode cL_law 462 = .ok (.iconst 4, 1) := by decide +kernel
theorem dL_law_463 : decode cL_law 463 = .ok (.iadd, 1) := by decide +kernel
theorem dL_law_464 : decode cL_law 464 = .ok (.iaload, 1) := by decide +kernel
theorem dL_law_465 : decode cL_law 465 = .ok (.invokevirtual 57, 3) := by decide +kernel
theorem dL_law_468 : decode cL_law 468 = .ok (.aload_n 2, 1) := by decide +kernel
theorem dL_law_469 : decode cL_law 469 = .ok (.aload_n 0, 1) := by decide +kernel
theorem dL_law_470 : decode cL_law 470 = .ok (.iload_n 3, 1) := by decide +kernel
theorem dL_law_471 : decode cL_law 471 = .ok (.iconst 1, 1) := by decide +kernel
theorem dL_law_472 : decode cL_law 472 = .ok (.iadd, 1) := by decide +kernel
theorem dL_law_473 : decode cL_law 473 = .ok (.iaload, 1) := by decide +kernel
theorem dL_law_474 : decode cL_law 474 = .ok (.aload_n 0, 1) := by decide +kernel
theorem dL_law_475 : decode cL_law 475 = .ok (.iload_n 3, 1) := by decide +kernel
theorem dL_law_476 : decode cL_law 476 = .ok (.iconst 2, 1) := by decide +kernel
theorem dL_law_477 : decode cL_law 477 = .ok (.iadd, 1) := by decide +kernel
theorem dL_law_478 : decode cL_law 478 = .ok (.iaload, 1) := by decide +kernel
theorem dL_law_479 : decode cL_law 479 = .ok (.aload_n 0, 1) := by decide +kernel
theorem dL_law_480 : decode cL_law 480 = .ok (.iload_n 3, 1) := by decide +kernel
theorem dL_law_481 : decode cL_law 481 = .ok (.iconst 3, 1) := by decide +kernel
theorem dL_law_482 : decode cL_law 482 = .ok (.iadd, 1) := by decide +kernel
theorem dL_law_483 : decode cL_law 483 = .ok (.iaload, 1) := by decide +kernel
theorem dL_law_484 : decode cL_law 484 = .ok (.aload_n 0, 1) := by decide +kernel
theorem dL_law_485 : decode cL_law 485 = .ok (.iload_n 3, 1) := by decide +kernel
theorem dL_law_486 : decode cL_law 486 = .ok (.iconst 4, 1) := by decide +kernel
theorem dL_law_487 : decode cL_law 487 = .ok (.iadd, 1) := by decide +kernel
theorem dL_law_488 : decode cL_law 488 = .ok (.iaload, 1) := by decide +kernel
theorem dL_law_489 : decode cL_law 489 = .ok (.invokevirtual 61, 3) := by decide +kernel
theorem dL_law_492 : decode cL_law 492 = .ok (.if_icmp .eq 335, 3) := by decide +kernel
theorem dL_law_495 : decode cL_law 495 = .ok (.iconst 0, 1) := by decide +kernel
theorem dL_law_496 : decode cL_law 496 = .ok (.ireturn, 1) := by decide +kernel
theorem dL_law_497 : decode cL_law 497 = .ok (.aload_n 1, 1) := by decide +kernel
theorem dL_law_498 : decode cL_law 498 = .ok (.invokevirtual 62, 3) := by decide +kernel
theorem dL_law_501 : decode cL_law 501 = .ok (.aload_n 2, 1) := by decide +kernel
theorem dL_law_502 : decode cL_law 502 = .ok (.invokevirtual 65, 3) := by decide +kernel
theorem dL_law_505 : decode cL_law 505 = .ok (.if_icmp .eq 322, 3) := by decide +kernel
theorem dL_law_508 : decode cL_law 508 = .ok (.iconst 0, 1) := by decide +kernel
theorem dL_law_509 : decode cL_law 509 = .ok (.ireturn, 1) := by decide +kernel
theorem dL_law_510 : decode cL_law 510 = .ok (.aload_n 1, 1) := by decide +kernel
theorem dL_law_511 : decode cL_law 511 = .ok (.aload_n 0, 1) := by decide +kernel
theorem dL_law_512 : decode cL_law 512 = .ok (.iload_n 3, 1) := by decide +kernel
theorem dL_law_513 : decode cL_law 513 = .ok (.iconst 1, 1) := by decide +kernel
theorem dL_law_514 : decode cL_law 514 = .ok (.iadd, 1) := by decide +kernel
theorem dL_law_515 : decode cL_law 515 = .ok (.iaload, 1) := by decide +kernel
theorem dL_law_516 : decode cL_law 516 = .ok (.invokevirtual 66, 3) := by decide +kernel
theorem dL_law_519 : decode cL_law 519 = .ok (.aload_n 2, 1) := by decide +kernel
theorem dL_law_520 : decode cL_law 520 = .ok (.aload_n 0, 1) := by decide +kernel
theorem dL_law_521 : decode cL_law 521 = .ok (.iload_n 3, 1) := by decide +kernel
theorem dL_law_522 : decode cL_law 522 = .ok (.iconst 1, 1) := by decide +kernel
theorem dL_law_523 : decode cL_law 523 = .ok (.iadd, 1) := by decide +kernel
theorem dL_law_524 : decode cL_law 524 = .ok (.iaload, 1) := by decide +kernel
theorem dL_law_525 : decode cL_law 525 = .ok (.invokevirtual 69, 3) := by decide +kernel
theorem dL_law_528 : decode cL_law 528 = .ok (.if_icmp .eq 299, 3) := by decide +kernel
theorem dL_law_531 : decode cL_law 531 = .ok (.iconst 0, 1) := by decide +kernel
theorem dL_law_532 : decode cL_law 532 = .ok (.ireturn, 1) := by decide +kernel
theorem dL_law_533 : decode cL_law 533 = .ok (.aload_n 1, 1) := by decide +kernel
theorem dL_law_534 : decode cL_law 534 = .ok (.aload_n 0, 1) := by decide +kernel
theorem dL_law_535 : decode cL_law 535 = .ok (.iload_n 3, 1) := by decide +kernel
theorem dL_law_536 : decode cL_law 536 = .ok (.iconst 1, 1) := by decide +kernel
theorem dL_law_537 : decode cL_law 537 = .ok (.iadd, 1) := by decide +kernel
theorem dL_law_538 : decode cL_law 538 = .ok (.iaload, 1) := by decide +kernel
theorem dL_law_539 : decode cL_law 539 = .ok (.invokevirtual 70, 3) := by decide +kernel
theorem dL_law_542 : decode cL_law 542 = .ok (.aload_n 2, 1) := by decide +kernel
theorem dL_law_543 : decode cL_law 543 = .ok (.aload_n 0, 1) := by decide +kernel
theorem dL_law_544 : decode cL_law 544 = .ok (.iload_n 3, 1) := by decide +kernel
theorem dL_law_545 : decode cL_law 545 = .ok (.iconst 1, 1) := by decide +kernel
theorem dL_law_546 : decode cL_law 546 = .ok (.iadd, 1) := by decide +kernel
theorem dL_law_547 : decode cL_law 547 = .ok (.iaload, 1) := by decide +kernel
theorem dL_law_548 : decode cL_law 548 = .ok (.invokevirtual 73, 3) := by decide +kernel
theorem dL_law_551 : decode cL_law 551 = .ok (.if_icmp .eq 276, 3) := by decide +kernel
theorem dL_law_554 : decode cL_law 554 = .ok (.iconst 0, 1) := by decide +kernel
theorem dL_law_555 : decode cL_law 555 = .ok (.ireturn, 1) := by decide +kernel
theorem dL_law_556 : decode cL_law 556 = .ok (.aload_n 1, 1) := by decide +kernel
theorem dL_law_557 : decode cL_law 557 = .ok (.invokevirtual 74, 3) := by decide +kernel
theorem dL_law_560 : decode cL_law 560 = .ok (.aload_n 2, 1) := by decide +kernel
theorem dL_law_561 : decode cL_law 561 = .ok (.invokevirtual 78, 3) := by decide +kernel
theorem dL_law_564 : decode cL_law 564 = .ok (.lcmp, 1) := by decide +kernel
theorem dL_law_565 : decode cL_law 565 = .ok (.ifCond .eq 262, 3) := by decide +kernel
theorem dL_law_568 : decode cL_law 568 = .ok (.iconst 0, 1) := by decide +kernel
theorem dL_law_569 : decode cL_law 569 = .ok (.ireturn, 1) := by decide +kernel
theorem dL_law_570 : decode cL_law 570 = .ok (.aload_n 1, 1) := by decide +kernel
theorem dL_law_571 : decode cL_law 571 = .ok (.aload_n 0, 1) := by decide +kernel
theorem dL_law_572 : decode cL_law 572 = .ok (.iload_n 3, 1) := by decide +kernel
theorem dL_law_573 : decode cL_law 573 = .ok (.iconst 1, 1) := by decide +kernel
theorem dL_law_574 : decode cL_law 574 = .ok (.iadd, 1) := by decide +kernel
theorem dL_law_575 : decode cL_law 575 = .ok (.iaload, 1) := by decide +kernel
theorem dL_law_576 : decode cL_law 576 = .ok (.aload_n 0, 1) := by decide +kernel
theorem dL_law_577 : decode cL_law 577 = .ok (.iload_n 3, 1) := by decide +kernel
theorem dL_law_578 : decode cL_law 578 = .ok (.iconst 2, 1) := by decide +kernel
theorem dL_law_579 : decode cL_law 579 = .ok (.iadd, 1) := by decide +kernel
theorem dL_law_580 : decode cL_law 580 = .ok (.iaload, 1) := by decide +kernel
theorem dL_law_581 : decode cL_law 581 = .ok (.invokevirtual 79, 3) := by decide +kernel
theorem dL_law_584 : decode cL_law 584 = .ok (.aload_n 2, 1) := by decide +kernel
theorem dL_law_585 : decode cL_law 585 = .ok (.aload_n 0, 1) := by decide +kernel
theorem dL_law_586 : decode cL_law 586 = .ok (.iload_n 3, 1) := by decide +kernel
theorem dL_law_587 : decode cL_law 587 = .ok (.iconst 1, 1) := by decide +kernel
theorem dL_law_588 : decode cL_law 588 = .ok (.iadd, 1) := by decide +kernel
theorem dL_law_589 : decode cL_law 589 = .ok (.iaload, 1) := by decide +kernel
theorem dL_law_590 : decode cL_law 590 = .ok (.aload_n 0, 1) := by decide +kernel
theorem dL_law_591 : decode cL_law 591 = .ok (.iload_n 3, 1) := by decide +kernel
theorem dL_law_592 : decode cL_law 592 = .ok (.iconst 2, 1) := by decide +kernel
theorem dL_law_593 : decode cL_law 593 = .ok (.iadd, 1) := by decide +kernel
theorem dL_law_594 : decode cL_law 594 = .ok (.iaload, 1) := by decide +kernel
theorem dL_law_595 : decode cL_law 595 = .ok (.invokevirtual 82, 3) := by decide +kernel
theorem dL_law_598 : decode cL_law 598 = .ok (.if_icmp .eq 229, 3) := by decide +kernel
theorem dL_law_601 : decode cL_law 601 = .ok (.iconst 0, 1) := by decide +kernel
theorem dL_law_602 : decode cL_law 602 = .ok (.ireturn, 1) := by decide +kernel
theorem dL_law_603 : decode cL_law 603 = .ok (.aload_n 1, 1) := by decide +kernel
theorem dL_law_604 : decode cL_law 604 = .ok (.aload_n 0, 1) := by decide +kernel
theorem dL_law_605 : decode cL_law 605 = .ok (.iload_n 3, 1) := by decide +kernel
theorem dL_law_606 : decode cL_law 606 = .ok (.iconst 1, 1) := by decide +kernel
theorem dL_law_607 : decode cL_law 607 = .ok (.iadd, 1) := by decide +kernel
theorem dL_law_608 : decode cL_law 608 = .ok (.iaload, 1) := by decide +kernel
theorem dL_law_609 : decode cL_law 609 = .ok (.aload_n 0, 1) := by decide +kernel
theorem dL_law_610 : decode cL_law 610 = .ok (.iload_n 3, 1) := by decide +kernel
theorem dL_law_611 : decode cL_law 611 = .ok (.iconst 2, 1) := by decide +kernel
theorem dL_law_612 : decode cL_law 612 = .ok (.iadd, 1) := by decide +kernel
theorem dL_law_613 : decode cL_law 613 = .ok (.iaload, 1) := by decide +kernel
theorem dL_law_614 : decode cL_law 614 = .ok (.invokevirtual 83, 3) := by decide +kernel
theorem dL_law_617 : decode cL_law 617 = .ok (.aload_n 2, 1) := by decide +kernel
theorem dL_law_618 : decode cL_law 618 = .ok (.aload_n 0, 1) := by decide +kernel
theorem dL_law_619 : decode cL_law 619 = .ok (.iload_n 3, 1) := by decide +kernel
theorem dL_law_620 : decode cL_law 620 = .ok (.iconst 1, 1) := by decide +kernel
theorem dL_law_621 : decode cL_law 621 = .ok (.iadd, 1) := by decide +kernel
theorem dL_law_622 : decode cL_law 622 = .ok (.iaload, 1) := by decide +kernel
theorem dL_law_623 : decode cL_law 623 = .ok (.aload_n 0, 1) := by decide +kernel
theorem dL_law_624 : decode cL_law 624 = .ok (.iload_n 3, 1) := by decide +kernel
theorem dL_law_625 : decode cL_law 625 = .ok (.iconst 2, 1) := by decide +kernel
theorem dL_law_626 : decode cL_law 626 = .ok (.iadd, 1) := by decide +kernel
theorem dL_law_627 : decode cL_law 627 = .ok (.iaload, 1) := by decide +kernel
theorem dL_law_628 : decode cL_law 628 = .ok (.invokevirtual 86, 3) := by decide +kernel
theorem dL_law_631 : decode cL_law 631 = .ok (.if_icmp .eq 196, 3) := by decide +kernel
theorem dL_law_634 : decode cL_law 634 = .ok (.iconst 0, 1) := by decide +kernel
theorem dL_law_635 : decode cL_law 635 = .ok (.ireturn, 1) := by decide +kernel
theorem dL_law_636 : decode cL_law 636 = .ok (.aload_n 1, 1) := by decide +kernel
theorem dL_law_637 : decode cL_law 637 = .ok (.aload_n 0, 1) := by decide +kernel
theorem dL_law_638 : decode cL_law 638 = .ok (.iload_n 3, 1) := by decide +kernel
theorem dL_law_639 : decode cL_law 639 = .ok (.iconst 1, 1) := by decide +kernel
theorem dL_law_640 : decode cL_law 640 = .ok (.iadd, 1) := by decide +kernel
theorem dL_law_641 : decode cL_law 641 = .ok (.iaload, 1) := by decide +kernel
theorem dL_law_642 : decode cL_law 642 = .ok (.aload_n 0, 1) := by decide +kernel
theorem dL_law_643 : decode cL_law 643 = .ok (.iload_n 3, 1) := by decide +kernel
theorem dL_law_644 : decode cL_law 644 = .ok (.iconst 2, 1) := by decide +kernel
theorem dL_law_645 : decode cL_law 645 = .ok (.iadd, 1) := by decide +kernel
theorem dL_law_646 : decode cL_law 646 = .ok (.iaload, 1) := by decide +kernel
theorem dL_law_647 : decode cL_law 647 = .ok (.invokevirtual 87, 3) := by decide +kernel
theorem dL_law_650 : decode cL_law 650 = .ok (.aload_n 2, 1) := by decide +kernel
theorem dL_law_651 : decode cL_law 651 = .ok (.aload_n 0, 1) := by decide +kernel
theorem dL_law_652 : decode cL_law 652 = .ok (.iload_n 3, 1) := by decide +kernel
theorem dL_law_653 : decode cL_law 653 = .ok (.iconst 1, 1) := by decide +kernel
theorem dL_law_654 : decode cL_law 654 = .ok (.iadd, 1) := by decide +kernel
theorem dL_law_655 : decode cL_law 655 = .ok (.iaload, 1) := by decide +kernel
theorem dL_law_656 : decode cL_law 656 = .ok (.aload_n 0, 1) := by decide +kernel
theorem dL_law_657 : decode cL_law 657 = .ok (.iload_n 3, 1) := by decide +kernel
theorem dL_law_658 : decode cL_law 658 = .ok (.iconst 2, 1) := by decide +kernel
theorem dL_law_659 : decode cL_law 659 = .ok (.iadd, 1) := by decide +kernel
theorem dL_law_660 : decode cL_law 660 = .ok (.iaload, 1) := by decide +kernel
theorem dL_law_661 : decode cL_law 661 = .ok (.invokevirtual 90, 3) := by decide +kernel
theorem dL_law_664 : decode cL_law 664 = .ok (.if_icmp .eq 163, 3) := by decide +kernel
theorem dL_law_667 : decode cL_law 667 = .ok (.iconst 0, 1) := by decide +kernel
theorem dL_law_668 : decode cL_law 668 = .ok (.ireturn, 1) := by decide +kernel
theorem dL_law_669 : decode cL_law 669 = .ok (.aload_n 1, 1) := by decide +kernel
theorem dL_law_670 : decode cL_law 670 = .ok (.aload_n 0, 1) := by decide +kernel
theorem dL_law_671 : decode cL_law 671 = .ok (.iload_n 3, 1) := by decide +kernel
theorem dL_law_672 : decode cL_law 672 = .ok (.iconst 1, 1) := by decide +kernel
theorem dL_law_673 : decode cL_law 673 = .ok (.iadd, 1) := by decide +kernel
theorem dL_law_674 : decode cL_law 674 = .ok (.iaload, 1) := by decide +kernel
theorem dL_law_675 : decode cL_law 675 = .ok (.invokevirtual 91, 3) := by decide +kernel
theorem dL_law_678 : decode cL_law 678 = .ok (.aload_n 2, 1) := by decide +kernel
theorem dL_law_679 : decode cL_law 679 = .ok (.aload_n 0, 1) := by decide +kernel
theorem dL_law_680 : decode cL_law 680 = .ok (.iload_n 3, 1) := by decide +kernel
theorem dL_law_681 : decode cL_law 681 = .ok (.iconst 1, 1) := by decide +kernel
theorem dL_law_682 : decode cL_law 682 = .ok (.iadd, 1) := by decide +kernel
theorem dL_law_683 : decode cL_law 683 = .ok (.iaload, 1) := by decide +kernel
theorem dL_law_684 : decode cL_law 684 = .ok (.invokevirtual 94, 3) := by decide +kernel
theorem dL_law_687 : decode cL_law 687 = .ok (.if_icmp .eq 140, 3) := by decide +kernel
theorem dL_law_690 : decode cL_law 690 = .ok (.iconst 0, 1) := by decide +kernel
theorem dL_law_691 : decode cL_law 691 = .ok (.ireturn, 1) := by decide +kernel
theorem dL_law_692 : decode cL_law 692 = .ok (.aload_n 1, 1) := by decide +kernel
theorem dL_law_693 : decode cL_law 693 = .ok (.aload_n 0, 1) := by decide +kernel
theorem dL_law_694 : decode cL_law 694 = .ok (.iload_n 3, 1) := by decide +kernel
theorem dL_law_695 : decode cL_law 695 = .ok (.iconst 1, 1) := by decide +kernel
theorem dL_law_696 : decode cL_law 696 = .ok (.iadd, 1) := by decide +kernel
theorem dL_law_697 : decode cL_law 697 = .ok (.iaload, 1) := by decide +kernel
theorem dL_law_698 : decode cL_law 698 = .ok (.invokevirtual 95, 3) := by decide +kernel
theorem dL_law_701 : decode cL_law 701 = .ok (.aload_n 2, 1) := by decide +kernel
theorem dL_law_702 : decode cL_law 702 = .ok (.aload_n 0, 1) := by decide +kernel
theorem dL_law_703 : decode cL_law 703 = .ok (.iload_n 3, 1) := by decide +kernel
theorem dL_law_704 : decode cL_law 704 = .ok (.iconst 1, 1) := by decide +kernel
theorem dL_law_705 : decode cL_law 705 = .ok (.iadd, 1) := by decide +kernel
theorem dL_law_706 : decode cL_law 706 = .ok (.iaload, 1) := by decide +kernel
theorem dL_law_707 : decode cL_law 707 = .ok (.invokevirtual 98, 3) := by decide +kernel
theorem dL_law_710 : decode cL_law 710 = .ok (.if_icmp .eq 117, 3) := by decide +kernel
theorem dL_law_713 : decode cL_law 713 = .ok (.iconst 0, 1) := by decide +kernel
theorem dL_law_714 : decode cL_law 714 = .ok (.ireturn, 1) := by decide +kernel
theorem dL_law_715 : decode cL_law 715 = .ok (.aload_n 1, 1) := by decide +kernel
theorem dL_law_716 : decode cL_law 716 = .ok (.aload_n 0, 1) := by decide +kernel
theorem dL_law_717 : decode cL_law 717 = .ok (.iload_n 3, 1) := by decide +kernel
theorem dL_law_718 : decode cL_law 718 = .ok (.iconst 1, 1) := by decide +kernel
theorem dL_law_719 : decode cL_law 719 = .ok (.iadd, 1) := by decide +kernel
theorem dL_law_720 : decode cL_law 720 = .ok (.iaload, 1) := by decide +kernel
theorem dL_law_721 : decode cL_law 721 = .ok (.aload_n 0, 1) := by decide +kernel
theorem dL_law_722 : decode cL_law 722 = .ok (.iload_n 3, 1) := by decide +kernel
theorem dL_law_723 : decode cL_law 723 = .ok (.iconst 2, 1) := by decide +kernel
theorem dL_law_724 : decode cL_law 724 = .ok (.iadd, 1) := by decide +kernel
theorem dL_law_725 : decode cL_law 725 = .ok (.iaload, 1) := by decide +kernel
theorem dL_law_726 : decode cL_law 726 = .ok (.invokevirtual 99, 3) := by decide +kernel
theorem dL_law_729 : decode cL_law 729 = .ok (.aload_n 2, 1) := by decide +kernel
theorem dL_law_730 : decode cL_law 730 = .ok (.aload_n 0, 1) := by decide +kernel
theorem dL_law_731 : decode cL_law 731 = .ok (.iload_n 3, 1) := by decide +kernel
theorem dL_law_732 : decode cL_law 732 = .ok (.iconst 1, 1) := by decide +kernel
theorem dL_law_733 : decode cL_law 733 = .ok (.iadd, 1) := by decide +kernel
theorem dL_law_734 : decode cL_law 734 = .ok (.iaload, 1) := by decide +kernel
theorem dL_law_735 : decode cL_law 735 = .ok (.aload_n 0, 1) := by decide +kernel
theorem dL_law_736 : decode cL_law 736 = .ok (.iload_n 3, 1) := by decide +kernel
theorem dL_law_737 : decode cL_law 737 = .ok (.iconst 2, 1) := by decide +kernel
theorem dL_law_738 : decode cL_law 738 = .ok (.iadd, 1) := by decide +kernel
theorem dL_law_739 : decode cL_law 739 = .ok (.iaload, 1) := by decide +kernel
theorem dL_law_740 : decode cL_law 740 = .ok (.invokevirtual 102, 3) := by decide +kernel
theorem dL_law_743 : decode cL_law 743 = .ok (.if_icmp .eq 84, 3) := by decide +kernel
theorem dL_law_746 : decode cL_law 746 = .ok (.iconst 0, 1) := by decide +kernel
theorem dL_law_747 : decode cL_law 747 = .ok (.ireturn, 1) := by decide +kernel
theorem dL_law_748 : decode cL_law 748 = .ok (.aload_n 1, 1) := by decide +kernel
theorem dL_law_749 : decode cL_law 749 = .ok (.aload_n 0, 1) := by decide +kernel
theorem dL_law_750 : decode cL_law 750 = .ok (.iload_n 3, 1) := by decide +kernel
theorem dL_law_751 : decode cL_law 751 = .ok (.iconst 1, 1) := by decide +kernel
theorem dL_law_752 : decode cL_law 752 = .ok (.iadd, 1) := by decide +kernel
theorem dL_law_753 : decode cL_law 753 = .ok (.iaload, 1) := by decide +kernel
theorem dL_law_754 : decode cL_law 754 = .ok (.aload_n 0, 1) := by decide +kernel
theorem dL_law_755 : decode cL_law 755 = .ok (.iload_n 3, 1) := by decide +kernel
theorem dL_law_756 : decode cL_law 756 = .ok (.iconst 2, 1) := by decide +kernel
theorem dL_law_757 : decode cL_law 757 = .ok (.iadd, 1) := by decide +kernel
theorem dL_law_758 : decode cL_law 758 = .ok (.iaload, 1) := by decide +kernel
theorem dL_law_759 : decode cL_law 759 = .ok (.invokevirtual 103, 3) := by decide +kernel
theorem dL_law_762 : decode cL_law 762 = .ok (.aload_n 2, 1) := by decide +kernel
theorem dL_law_763 : decode cL_law 763 = .ok (.aload_n 0, 1) := by decide +kernel
theorem dL_law_764 : decode cL_law 764 = .ok (.iload_n 3, 1) := by decide +kernel
theorem dL_law_765 : decode cL_law 765 = .ok (.iconst 1, 1) := by decide +kernel
theorem dL_law_766 : decode cL_law 766 = .ok (.iadd, 1) := by decide +kernel
theorem dL_law_767 : decode cL_law 767 = .ok (.iaload, 1) := by decide +kernel
theorem dL_law_768 : decode cL_law 768 = .ok (.aload_n 0, 1) := by decide +kernel
theorem dL_law_769 : decode cL_law 769 = .ok (.iload_n 3, 1) := by decide +kernel
theorem dL_law_770 : decode cL_law 770 = .ok (.iconst 2, 1) := by decide +kernel
theorem dL_law_771 : decode cL_law 771 = .ok (.iadd, 1) := by decide +kernel
theorem dL_law_772 : decode cL_law 772 = .ok (.iaload, 1) := by decide +kernel
theorem dL_law_773 : decode cL_law 773 = .ok (.invokevirtual 106, 3) := by decide +kernel
theorem dL_law_776 : decode cL_law 776 = .ok (.if_icmp .eq 51, 3) := by decide +kernel
theorem dL_law_779 : decode cL_law 779 = .ok (.iconst 0, 1) := by decide +kernel
theorem dL_law_780 : decode cL_law 780 = .ok (.ireturn, 1) := by decide +kernel
theorem dL_law_781 : decode cL_law 781 = .ok (.aload_n 1, 1) := by decide +kernel
theorem dL_law_782 : decode cL_law 782 = .ok (.aload_n 0, 1) := by decide +kernel
theorem dL_law_783 : decode cL_law 783 = .ok (.iload_n 3, 1) := by decide +kernel
theorem dL_law_784 : decode cL_law 784 = .ok (.iconst 1, 1) := by decide +kernel
theorem dL_law_785 : decode cL_law 785 = .ok (.iadd, 1) := by decide +kernel
theorem dL_law_786 : decode cL_law 786 = .ok (.iaload, 1) := by decide +kernel
theorem dL_law_787 : decode cL_law 787 = .ok (.aload_n 0, 1) := by decide +kernel
theorem dL_law_788 : decode cL_law 788 = .ok (.iload_n 3, 1) := by decide +kernel
theorem dL_law_789 : decode cL_law 789 = .ok (.iconst 2, 1) := by decide +kernel
theorem dL_law_790 : decode cL_law 790 = .ok (.iadd, 1) := by decide +kernel
theorem dL_law_791 : decode cL_law 791 = .ok (.iaload, 1) := by decide +kernel
theorem dL_law_792 : decode cL_law 792 = .ok (.invokevirtual 107, 3) := by decide +kernel
theorem dL_law_795 : decode cL_law 795 = .ok (.aload_n 2, 1) := by decide +kernel
theorem dL_law_796 : decode cL_law 796 = .ok (.aload_n 0, 1) := by decide +kernel
theorem dL_law_797 : decode cL_law 797 = .ok (.iload_n 3, 1) := by decide +kernel
theorem dL_law_798 : decode cL_law 798 = .ok (.iconst 1, 1) := by decide +kernel
theorem dL_law_799 : decode cL_law 799 = .ok (.iadd, 1) := by decide +kernel
theorem dL_law_800 : decode cL_law 800 = .ok (.iaload, 1) := by decide +kernel
theorem dL_law_801 : decode cL_law 801 = .ok (.aload_n 0, 1) := by decide +kernel
theorem dL_law_802 : decode cL_law 802 = .ok (.iload_n 3, 1) := by decide +kernel
theorem dL_law_803 : decode cL_law 803 = .ok (.iconst 2, 1) := by decide +kernel
theorem dL_law_804 : decode cL_law 804 = .ok (.iadd, 1) := by decide +kernel
theorem dL_law_805 : decode cL_law 805 = .ok (.iaload, 1) := by decide +kernel
theorem dL_law_806 : decode cL_law 806 = .ok (.invokevirtual 110, 3) := by decide +kernel
theorem dL_law_809 : decode cL_law 809 = .ok (.if_icmp .eq 18, 3) := by decide +kernel
theorem dL_law_812 : decode cL_law 812 = .ok (.iconst 0, 1) := by decide +kernel
theorem dL_law_813 : decode cL_law 813 = .ok (.ireturn, 1) := by decide +kernel
theorem dL_law_814 : decode cL_law 814 = .ok (.aload_n 1, 1) := by decide +kernel
theorem dL_law_815 : decode cL_law 815 = .ok (.invokevirtual 111, 3) := by decide +kernel
theorem dL_law_818 : decode cL_law 818 = .ok (.aload_n 2, 1) := by decide +kernel
theorem dL_law_819 : decode cL_law 819 = .ok (.invokevirtual 114, 3) := by decide +kernel
theorem dL_law_822 : decode cL_law 822 = .ok (.if_icmp .eq 5, 3) := by decide +kernel
theorem dL_law_825 : decode cL_law 825 = .ok (.iconst 0, 1) := by decide +kernel
theorem dL_law_826 : decode cL_law 826 = .ok (.ireturn, 1) := by decide +kernel
theorem dL_law_827 : decode cL_law 827 = .ok (.iinc 3 6, 3) := by decide +kernel
theorem dL_law_830 : decode cL_law 830 = .ok (.goto (-812), 3) := by decide +kernel
theorem dL_law_833 : decode cL_law 833 = .ok (.iconst 1, 1) := by decide +kernel
theorem dL_law_834 : decode cL_law 834 = .ok (.ireturn, 1) := by decide +kernel
end
section
/-- the cells of class (0 .. 36) and reference (37 ..): arrays (boolean?, length), objects (number of their class, fields: another cell, or a number of the memory) -/
def xlay : List ((Bool × Nat) ⊕ (Nat × List (Option Nat))) := [.inr (8, [some 1, some 4, some 9, some 25, some 32, some 34, some 35]), .inr (6, [some 2, some 3, none]), .inl (false, 400), .inl (false, 8), .inr (7, [some 5, some 6, some 7, some 8, none]), .inl (false, 408), .inl (false, 408), .inl (false, 8), .inl (false, 8), .inr (3, [some 10, some 11, some 12, some 4, some 13]), .inl (false, 408), .inl (false, 408), .inl (false, 408), .inr (4, [some 14, some 15, some 16, some 17, some 18, some 19, some 20, some 21, some 22, some 23, some 24]), .inl (false, 408), .inl (false, 816), .inl (true, 816), .inl (false, 816), .inl (false, 11), .inl (false, 11), .inl (false, 11), .inl (false, 408), .inl (false, 408), .inl (false, 1009), .inl (false, 1008), .inr (0, [some 26, some 27, some 28, some 4, some 9, some 29, some 30, some 31]), .inl (false, 408), .inl (false, 408), .inl (false, 408), .inl (false, 408), .inl (false, 408), .inl (false, 408), .inr (2, [some 33, some 4, some 9, none]), .inl (false, 40), .inr (5, [some 4, some 9]), .inr (1, [some 36, some 4, some 9]), .inl (false, 408), .inr (9, [some 38, some 39, none, some 40, some 41, some 42, none, some 43, some 44, some 45, some 46, some 47, none, some 48, some 49]), .inl (false, 3200), .inl (false, 8), .inl (false, 408), .inl (false, 408), .inl (false, 8), .inl (false, 166464), .inl (false, 408), .inl (false, 408), .inl (false, 408), .inl (false, 40), .inl (false, 8), .inl (true, 408)]
/-! THE WORLD AS A MEMORY: the cells of class and reference never change their number or their kind once they are made; what they hold is a memory (cell, slot) -> int. -/
abbrev xM : Type := Nat → Nat → Int32
abbrev xLE : Type := (Bool × Nat) ⊕ (Nat × List (Option Nat))
abbrev xT : Type := va_G × ClassId × ClassId × (Nat → Nat) × Nat
abbrev xa (w : xT) (k : Nat) : Nat := w.2.2.2.1 k
/-- a row of the memory is written anew -/
def xst (M : xM) (k : Nat) (f : Nat → Int32) : xM := fun a => if a = k then f else M a
/-- an element is written anew -/
abbrev xs1 (M : xM) (k j : Nat) (v : Int32) : xM := xst M k (upd (M k) j v)
abbrev xcp (M : xM) (k0 k1 : Nat) (sp dp n : Int32) : xM := xst M k1 (va_cpy (M k0) (M k1) sp.toNatClampNeg dp.toNatClampNeg n.toNatClampNeg)
abbrev xin (i : Int32) (n : Nat) : Prop := ¬ (i < 0 ∨ n ≤ i.toNatClampNeg)
/-- a copy of n from sp in a row of n0 to dp in a row of n1 is within -/
abbrev xcin (sp dp n : Int32) (n0 n1 : Nat) : Prop := ¬ sp < 0 ∧ ¬ dp < 0 ∧ ¬ n < 0 ∧ sp.toNatClampNeg + n.toNatClampNeg ≤ n0 ∧ dp.toNatClampNeg + n.toNatClampNeg ≤ n1
def xF (al : Nat → Nat) (f : Nat → Int32) : Nat → List (Option Nat) → List Value
  | _, [] => []
  | j, none :: r => .int (f j) :: xF al f (j + 1) r
  | j, some q :: r => .ref (al q) :: xF al f (j + 1) r
def xE (w : xT) (M : xM) (k : Nat) (e : xLE) : va_E := match e with
  | .inl (b, n) => .inl ((if b then w.2.2.1 else w.2.1), n, .inl (M k))
  | .inr (ci, fs) => .inr (ci, xF w.2.2.2.1 (M k) 0 fs)
def xL (w : xT) (M : xM) : Nat → List xLE → va_W
  | _, [] => []
  | k, e :: r => (xa w k, xE w M k e) :: xL w M (k + 1) r
theorem xF_get (al : Nat → Nat) (f : Nat → Int32) : ∀ (fs : List (Option Nat)) (j0 i : Nat), (xF al f j0 fs)[i]? = (fs[i]?).map (fun o => match o with | none => Value.int (f (j0 + i)) | some q => Value.ref (al q))
  | [], j0, i => by simp [xF]
  | none :: r, j0, 0 => by simp [xF]
  | some q :: r, j0, 0 => by simp [xF]
  | none :: r, j0, i + 1 => by
    have h := xF_get al f r (j0 + 1) i
    simp only [xF, List.getElem?_cons_succ, h, Nat.add_assoc, Nat.add_comm 1 i]
  | some q :: r, j0, i + 1 => by
    have h := xF_get al f r (j0 + 1) i
    simp only [xF, List.getElem?_cons_succ, h, Nat.add_assoc, Nat.add_comm 1 i]
theorem xL_get (w : xT) (M : xM) : ∀ (l : List xLE) (k0 i : Nat), (xL w M k0 l)[i]? = (l[i]?).map (fun e => (xa w (k0 + i), xE w M (k0 + i) e))
  | [], k0, i => by simp [xL]
  | e :: r, k0, 0 => by simp [xL]
  | e :: r, k0, i + 1 => by
    have h := xL_get w M r (k0 + 1) i
    simp only [xL, List.getElem?_cons_succ, h, Nat.add_assoc, Nat.add_comm 1 i]
def xws (w : xT) (M : xM) : va_W := xL w M 0 xlay
theorem xws_get (w : xT) (M : xM) (k : Nat) : (xws w M)[k]? = (xlay[k]?).map (fun e => (xa w k, xE w M k e)) := by
  unfold xws
  rw [xL_get, Nat.zero_add]
theorem xws_A {w : xT} {M : xM} {k n : Nat} {b : Bool} (h : xlay[k]? = some (.inl (b, n))) : (xws w M)[k]? = some (xa w k, .inl ((if b then w.2.2.1 else w.2.1), n, .inl (M k))) := by
  rw [xws_get, h]; rfl
theorem xws_O {w : xT} {M : xM} {k ci : Nat} {fs : List (Option Nat)} (h : xlay[k]? = some (.inr (ci, fs))) : (xws w M)[k]? = some (xa w k, .inr (ci, xF w.2.2.2.1 (M k) 0 fs)) := by
  rw [xws_get, h]; rfl
theorem xst_self (M : xM) (k : Nat) (f : Nat → Int32) : xst M k f k = f := by simp [xst]
theorem xst_ne (M : xM) {k a : Nat} (f : Nat → Int32) (h : a ≠ k) : xst M k f a = M a := by simp [xst, h]
theorem xE_ne (w : xT) (M : xM) {k i : Nat} (f : Nat → Int32) (h : i ≠ k) (e : xLE) : xE w (xst M k f) i e = xE w M i e := by
  rcases e with ⟨b, n⟩ | ⟨ci, fs⟩
  · simp only [xE, xst_ne M f h]
  · simp only [xE, xst_ne M f h]
theorem xws_lt {w : xT} {M : xM} {k : Nat} {e : xLE} (h : xlay[k]? = some e) : k < (xws w M).length := by
  have h1 : (xws w M)[k]? = some (xa w k, xE w M k e) := by rw [xws_get, h]; rfl
  exact (List.getElem?_eq_some_iff.mp h1).1
theorem xws_setA {w : xT} {M : xM} {k n : Nat} {b : Bool} (h : xlay[k]? = some (.inl (b, n))) (f : Nat → Int32) : (xws w M).set k (xa w k, .inl ((if b then w.2.2.1 else w.2.1), n, .inl f)) = xws w (xst M k f) := by
  apply List.ext_getElem?
  intro i
  rw [List.getElem?_set]
  by_cases hk : k = i
  · subst hk
    rw [if_pos rfl, if_pos (xws_lt h), xws_A h, xst_self]
  · rw [if_neg hk, xws_get, xws_get]
    cases xlay[i]? with
    | none => rfl
    | some e => simp only [Option.map_some, xE_ne w M f (fun q => hk q.symm)]
theorem xF_set (al : Nat → Nat) (f : Nat → Int32) {fs : List (Option Nat)} {j : Nat} (hj : fs[j]? = some none) (v : Int32) : (xF al f 0 fs).set j (.int v) = xF al (upd f j v) 0 fs := by
  apply List.ext_getElem?
  intro i
  rw [List.getElem?_set]
  by_cases hk : j = i
  · subst hk
    have h1 : (xF al f 0 fs)[j]? = some (.int (f (0 + j))) := by rw [xF_get, hj]; rfl
    rw [if_pos rfl, if_pos (List.getElem?_eq_some_iff.mp h1).1, xF_get, hj]
    simp [upd]
  · rw [if_neg hk, xF_get, xF_get]
    cases fs[i]? with
    | none => rfl
    | some o =>
      cases o with
      | none =>
        have hk2 : ¬ i = j := fun q => hk q.symm
        simp [upd, hk2]
      | some q => rfl
theorem xws_setF {w : xT} {M : xM} {k ci j : Nat} {fs : List (Option Nat)} (h : xlay[k]? = some (.inr (ci, fs))) (hj : fs[j]? = some none) (v : Int32) : (xws w M).set k (xa w k, .inr (ci, (xF w.2.2.2.1 (M k) 0 fs).set j (.int v))) = xws w (xs1 M k j v) := by
  rw [xF_set _ _ hj]
  apply List.ext_getElem?
  intro i
  rw [List.getElem?_set]
  by_cases hk : k = i
  · subst hk
    rw [if_pos rfl, if_pos (xws_lt h), xws_O h]
    unfold xs1
    rw [xst_self]
  · rw [if_neg hk, xws_get, xws_get]
    cases xlay[i]? with
    | none => rfl
    | some e => simp only [Option.map_some, xE_ne w M _ (fun q => hk q.symm)]
/-! the tables' words: those that stay -/
def xG : List Cond := lw_tbl.filter goodWord
theorem xmG {q : Cond} (i : Nat) (h : tables_1[i]? = some q) (hg : goodWord q = true) : q ∈ xG := List.mem_filter.mpr ⟨List.mem_append_right _ (List.mem_of_getElem? h), hg⟩
theorem xmS {q : Cond} (i : Nat) (h : (k2_sels lw_privs)[i]? = some q) (hg : goodWord q = true) : q ∈ xG := List.mem_filter.mpr ⟨List.mem_append_left _ (List.mem_of_getElem? h), hg⟩
theorem xG_good {q : Cond} (h : q ∈ xG) : GoodIn xG (q :: xG) := by
  intro v hv
  have hv : v ∈ xG := by
    rcases List.mem_cons.mp hv with rfl | hv
    · exact h
    · exact hv
  exact ⟨hv, good_of_word (List.mem_filter.mp hv).2⟩
theorem xG_of {args : Array Value} {s : State} (h : ∀ v ∈ lw_tbl, v.before args s = true) : ∀ v ∈ xG, v.before args s = true := fun v hv => h v (List.mem_filter.mp hv).1
abbrev xA (w : xT) : Nat → Prop := fun q => w.2.2.2.2 ≤ q
def xK (w : xT) (U : State) : Prop := va_K w.1 vwCl [(w.2.1, FieldType.int), (w.2.2.1, FieldType.boolean)] U
def xD (w : xT) : Prop := ∀ M : xM, va_D (xA w) (xws w M)
def xP (w : xT) (M : xM) (H : Heap) : Prop := va_P w.1 vwCl (xws w M) H
abbrev xS (w : xT) (s : State) (H : Heap) (locs : List Loc) : Prop := va_S (xA w) s.heap H locs
theorem xD.of {w : xT} {M : xM} (h : va_D (xA w) (xws w M)) : xD w := by
  intro M2
  have key : ∀ (i : Nat) (p : Nat × va_E), (xws w M2)[i]? = some p → ∃ e, (xws w M)[i]? = some (p.1, e) := by
    intro i p hp
    rw [xws_get] at hp
    rw [xws_get]
    cases hx : xlay[i]? with
    | none => rw [hx] at hp; cases hp
    | some e =>
      rw [hx] at hp
      cases hp
      exact ⟨_, rfl⟩
  refine ⟨fun i j p q hi hj hpq => ?_, fun k q hk => ?_⟩
  · obtain ⟨e1, h1⟩ := key i p hi
    obtain ⟨e2, h2⟩ := key j q hj
    exact h.1 i j _ _ h1 h2 hpq
  · obtain ⟨e1, h1⟩ := key k q hk
    exact h.2 k (q.1, e1) h1
/-- what holds in a method's body -/
def xX (p : Program) (s : State) (m : MethodId) (args : Array Value) (meth : Method) (c : Code) (cc : ByteArray) (nL : Nat) (ret : Option FieldType) (own : String) (w : xT) : Prop :=
  p.tables.exec = Jvm.exec ∧ c.code = cc ∧ c.maxLocals = nL ∧ meth.sig.returnType = ret ∧ meth.locks = false ∧ s.vm.findClass own = some m.cls ∧ (∀ v ∈ xG, v.before args s = true) ∧ xK w s ∧ xD w
def xQc (w : xT) (res : Option Value) (M2 : xM) : Array Value → State → Outcome → State → Prop := fun _ st oc t => oc = .returned res ∧ xP w M2 t.heap ∧ va_F (xA w) st t
def xQ (w : xT) (res : Option Value) (M2 : xM) (below : List Frame) (args : Array Value) (s : State) : State → Prop := MQ below (xQc w res M2) args s 0 0 (xA w)
/-- a method's contract: at the memory M it answers res, the memory is then M2 -/
def xC (l : Launch) (y : MethodName) (cy : Cond) (rm : Room) (w : xT) (As : List Value) (M : xM) (res : Option Value) (M2 : xM) : Prop :=
  Met l y (cy :: xG) rm (va_Pc As (fun U => xP w M U.heap ∧ xK w U ∧ xD w)) (xQc w res M2) 0 0 (xA w)
theorem xC.of {l : Launch} {y : MethodName} {cc : ByteArray} {nL : Nat} {ret : Option FieldType} {rm : Room} {w : xT} {As : List Value} {M M2 : xM} {res : Option Value} (hy : plainName y.cls = true) (hn : (lg_sl As).length ≤ nL)
    (body : ∀ (p : Program) (e : Env) (s : State) (m : MethodId) (args : Array Value) (below : List Frame) (meth : Method) (c : Code) (ls : Array Slot), xX p s m args meth c cc nL ret y.cls w → xP w M s.heap → xS w s s.heap [] → lv_has ls nL (lv_args 0 As) →
      W p l e rm s m args below meth c s.heap [] 0 0 (xQ w res M2 below args s) (F0 m 0 ls [])) : xC l y (Cond.code y cc nL ret) rm w As M res M2 := by
  refine Met.ofW (cc := cc) (maxL := nL) (ret := ret) hy rfl ?_
  intro p e s m args below meth c s₁ B hml hv
  obtain ⟨rfl, hP, hK, hD⟩ := hv
  have hts := atoms_spec (ws := Cond.code y cc nL ret :: xG) B.pre
  have hl := lv_entry As (n := nL) hn
  rw [lg_entry_eq]
  exact body p e s m _ below meth c _ ⟨B.exec, B.bytes, hml, B.returns, B.notSynchronized, findClass_of_methodNamed B.named, fun v hv => hts v (List.mem_cons_of_mem _ hv), hK, hD⟩ hP va_S.rf hl
section XW
variable {p : Program} {l : Launch} {e : Env} {R : Room} {s : State} {m : MethodId} {args : Array Value} {below : List Frame} {meth : Method} {c : Code} {H : Heap} {locs : List Loc} {cells slots : Nat} {Q : State → Prop}
variable {cc : ByteArray} {pc nL : Nat} {ls : Array Slot} {rest : List Value} {w : xT} {M : xM} {ret : Option FieldType} {own : String}
theorem xiald (X : xX p s m args meth c cc nL ret own w) (hP : xP w M H) (k : Nat) {n : Nat} (hk : xlay[k]? = some (.inl (false, n))) {i : Int32} (hin : xin i n) (hdg : decode cc pc = .ok (.iaload, 1))
    (kk : W p l e R s m args below meth c H locs cells slots Q (F0 m (pc + 1) ls (.int (M k i.toNatClampNeg) :: rest))) : W p l e R s m args below meth c H locs cells slots Q (F0 m pc ls (.int i :: .ref (xa w k) :: rest)) :=
  va_iald X.1 X.2.1 X.2.2.2.2.2.2.2.1 hP k 0 (f := M k) (xws_A hk) rfl hin hdg kk
theorem xzald (X : xX p s m args meth c cc nL ret own w) (hP : xP w M H) (k : Nat) {n : Nat} (hk : xlay[k]? = some (.inl (true, n))) {i : Int32} (hin : xin i n) (hdg : decode cc pc = .ok (.baload, 1))
    (kk : W p l e R s m args below meth c H locs cells slots Q (F0 m (pc + 1) ls (.int (M k i.toNatClampNeg) :: rest))) : W p l e R s m args below meth c H locs cells slots Q (F0 m pc ls (.int i :: .ref (xa w k) :: rest)) :=
  va_zald X.1 X.2.1 X.2.2.2.2.2.2.2.1 hP k 1 (f := M k) (xws_A hk) rfl hin hdg kk
theorem xiast (X : xX p s m args meth c cc nL ret own w) (hP : xP w M H) (hS : xS w s H locs) (k : Nat) {n : Nat} (hk : xlay[k]? = some (.inl (false, n))) {i x : Int32} (hin : xin i n) (hdg : decode cc pc = .ok (.iastore, 1))
    (kk : ∀ (M2 : xM) (H1 : Heap) (locs1 : List Loc), M2 = xs1 M k i.toNatClampNeg x → xP w M2 H1 → xS w s H1 locs1 → W p l e R s m args below meth c H1 locs1 cells slots Q (F0 m (pc + 1) ls rest)) : W p l e R s m args below meth c H locs cells slots Q (F0 m pc ls (.int x :: .int i :: .ref (xa w k) :: rest)) :=
  va_iast X.1 X.2.1 X.2.2.2.2.2.2.2.1 hP (X.2.2.2.2.2.2.2.2 M) hS k 0 (f := M k) (xws_A hk) rfl hin hdg (fun H1 locs1 h1 _ h3 => kk _ H1 locs1 rfl (by unfold xP; rw [← xws_setA hk]; exact h1) h3)
theorem xzast (X : xX p s m args meth c cc nL ret own w) (hP : xP w M H) (hS : xS w s H locs) (k : Nat) {n : Nat} (hk : xlay[k]? = some (.inl (true, n))) {i x : Int32} (hin : xin i n) (hdg : decode cc pc = .ok (.bastore, 1))
    (kk : ∀ (M2 : xM) (H1 : Heap) (locs1 : List Loc), M2 = xs1 M k i.toNatClampNeg (vp_nar .boolean x) → xP w M2 H1 → xS w s H1 locs1 → W p l e R s m args below meth c H1 locs1 cells slots Q (F0 m (pc + 1) ls rest)) : W p l e R s m args below meth c H locs cells slots Q (F0 m pc ls (.int x :: .int i :: .ref (xa w k) :: rest)) :=
  va_zast X.1 X.2.1 X.2.2.2.2.2.2.2.1 hP (X.2.2.2.2.2.2.2.2 M) hS k 1 (f := M k) (xws_A hk) rfl hin hdg (fun H1 locs1 h1 _ h3 => kk _ H1 locs1 rfl (by unfold xP; rw [← xws_setA hk]; exact h1) h3)
theorem xalen (X : xX p s m args meth c cc nL ret own w) (hP : xP w M H) (k : Nat) {n : Nat} (hk : xlay[k]? = some (.inl (false, n))) {v : Int32} (hv : Int32.ofNat n = v) (hdg : decode cc pc = .ok (.arraylength, 1))
    (kk : W p l e R s m args below meth c H locs cells slots Q (F0 m (pc + 1) ls (.int v :: rest))) : W p l e R s m args below meth c H locs cells slots Q (F0 m pc ls (.ref (xa w k) :: rest)) :=
  va_alen X.1 X.2.1 X.2.2.2.2.2.2.2.1 hP k 0 (x := (n, .inl (M k))) (xws_A hk) (ty := .int) rfl hv hdg kk
/-- the facts of a class -/
def xCl (C : String) (T : u_T) (N ci : Nat) (ty : Nat → FieldType) : Prop := (∀ v ∈ u_ws C T N, v ∈ xG) ∧ vwCl[ci]? = some (C, T, N) ∧ (∀ k, k < N → parseFieldDescriptor (T k).2.2.1 = some (ty k)) ∧ (∀ a, a < N → ∀ b, b < N → a ≠ b → (T a).2.1 ≠ (T b).2.1)
theorem xget {C : String} {T : u_T} {N ci index : Nat} {ty : Nat → FieldType} (K : xCl C T N ci ty) (X : xX p s m args meth c cc nL ret own w) (hP : xP w M H) (q0 k : Nat) {fs : List (Option Nat)} (he : xlay[q0]? = some (.inr (ci, fs))) (hk : k < N) (hlink : Cond.fieldLink own index (T k).1 (T k).2.1 (T k).2.2.1 ∈ xG) {r : Nat} (hv : fs[k]? = some (some r)) (hdg : decode cc pc = .ok (.getfield index, 3))
    (kk : W p l e R s m args below meth c H locs cells slots Q (F0 m (pc + 3) ls (.ref (xa w r) :: rest))) : W p l e R s m args below meth c H locs cells slots Q (F0 m pc ls (.ref (xa w q0) :: rest)) :=
  va_get X.1 X.2.1 X.2.2.2.2.2.2.1 K.1 X.2.2.2.2.2.1 X.2.2.2.2.2.2.2.1 hP q0 (xws_O he) K.2.1 k hk (X.2.2.2.2.2.2.1 _ hlink) (fun _ h => h) (by rw [xF_get, hv]; rfl) hdg kk
theorem xgeti {C : String} {T : u_T} {N ci index : Nat} {ty : Nat → FieldType} (K : xCl C T N ci ty) (X : xX p s m args meth c cc nL ret own w) (hP : xP w M H) (q0 k : Nat) {fs : List (Option Nat)} (he : xlay[q0]? = some (.inr (ci, fs))) (hk : k < N) (hlink : Cond.fieldLink own index (T k).1 (T k).2.1 (T k).2.2.1 ∈ xG) (hv : fs[k]? = some none) (hdg : decode cc pc = .ok (.getfield index, 3))
    (kk : W p l e R s m args below meth c H locs cells slots Q (F0 m (pc + 3) ls (.int (M q0 k) :: rest))) : W p l e R s m args below meth c H locs cells slots Q (F0 m pc ls (.ref (xa w q0) :: rest)) :=
  va_get X.1 X.2.1 X.2.2.2.2.2.2.1 K.1 X.2.2.2.2.2.1 X.2.2.2.2.2.2.2.1 hP q0 (xws_O he) K.2.1 k hk (X.2.2.2.2.2.2.1 _ hlink) (fun _ h => h) (by rw [xF_get, hv, Nat.zero_add]; rfl) hdg kk
theorem xputi {C : String} {T : u_T} {N ci index : Nat} {ty : Nat → FieldType} (K : xCl C T N ci ty) (X : xX p s m args meth c cc nL ret own w) (hP : xP w M H) (hS : xS w s H locs) (q0 k : Nat) {fs : List (Option Nat)} (he : xlay[q0]? = some (.inr (ci, fs))) (hk : k < N) (hlink : Cond.fieldLink own index (T k).1 (T k).2.1 (T k).2.2.1 ∈ xG) (hfin : (T k).2.2.2 = false) (hd : parseFieldDescriptor (T k).2.2.1 = some .int) (hv : fs[k]? = some none) {x : Int32} (hdg : decode cc pc = .ok (.putfield index, 3))
    (kk : ∀ (M2 : xM) (H1 : Heap) (locs1 : List Loc), M2 = xs1 M q0 k x → xP w M2 H1 → xS w s H1 locs1 → W p l e R s m args below meth c H1 locs1 cells slots Q (F0 m (pc + 3) ls rest)) : W p l e R s m args below meth c H locs cells slots Q (F0 m pc ls (.int x :: .ref (xa w q0) :: rest)) :=
  va_put X.1 X.2.1 X.2.2.2.2.2.2.1 K.1 ty K.2.2.1 K.2.2.2 X.2.2.2.2.2.1 X.2.2.2.2.2.2.2.1 hP (X.2.2.2.2.2.2.2.2 M) hS q0 (xws_O he) K.2.1 k hk (X.2.2.2.2.2.2.1 _ hlink) (fun _ h => h) hfin hd rfl rfl (by
    have h1 : (xF w.2.2.2.1 (M q0) 0 fs)[k]? = some (.int (M q0 (0 + k))) := by rw [xF_get, hv]; rfl
    exact (List.getElem?_eq_some_iff.mp h1).1) hdg (fun H1 locs1 h1 _ h3 => kk _ H1 locs1 rfl (by unfold xP; rw [← xws_setF he hv]; exact h1) h3)
/-- the words of a call -/
def xCW (own : String) (index : Nat) (y : MethodName) (cc : ByteArray) (nL : Nat) (ret : Option FieldType) (n : Nat) : Prop := Cond.code y cc nL ret ∈ xG ∧ Cond.initialized y.cls ∈ xG ∧ Cond.methodLink own index y ∈ xG ∧ y.cls ≠ "java/lang/invoke/MethodHandle" ∧ y.cls ≠ "java/lang/invoke/VarHandle" ∧ (parseMethodDescriptor y.desc).map (fun d => d.parameters.length) = some n
theorem xCW.B {index n : Nat} {y : MethodName} {cy : ByteArray} {nY : Nat} {rY : Option FieldType} {rm : Room} (K : xCW own index y cy nY rY n) (X : xX p s m args meth c cc nL ret own w) (hR : rm.frames + 1 ≤ R.frames ∧ 8 + (nY + 11) + rm.locals ≤ R.locals) (hc : rm.cells = 0) (hs : rm.slots = 0) : CallB R s args own index y cy nY rY (Cond.code y cy nY rY :: xG) rm 0 0 n :=
  callB_of n X.2.2.2.2.2.2.1 (xG_good K.1) rfl hc hs (X.2.2.2.2.2.2.1 _ K.2.1) (X.2.2.2.2.2.2.1 _ K.2.2.1) K.2.2.2 hR
theorem xgo {res : Option Value} {M2 : xM} {st0 : List Value} {a : Array Value} (hr : va_Run p l e R s m args below meth c H locs cells slots 0 0 (F0 m pc ls st0) rest (xQc w res M2 a) (xA w)) (hS : xS w s H locs)
    (kk : ∀ (H1 : Heap) (locs1 : List Loc), xP w M2 H1 → xS w s H1 locs1 → W p l e R s m args below meth c H1 locs1 cells slots Q (F0 m (pc + 3) ls (res.toList ++ rest))) : W p l e R s m args below meth c H locs cells slots Q (F0 m pc ls st0) := by
  intro T hT X
  obtain ⟨v, st₀, t, T', L, h0, X', hL, e1, e2, ⟨hv, hP2, hz, hk⟩, st⟩ := hr T hT X
  cases hv
  rw [h0] at hz hk
  obtain ⟨t2, a1, b1⟩ := kk T'.heap (locs ++ L) (by rw [e1]; exact hP2)
    ⟨Nat.le_trans hS.1 (by rw [e1]; exact hz), fun q h1 h2 => by rw [e1, hk q (Nat.lt_of_lt_of_le h1 hS.1) h2]; exact hS.2.1 q h1 h2, fun q hq => by
      rcases List.mem_append.mp hq with h | h
      · exact hS.2.2 q h
      · exact hL q h⟩ T' rfl X'
  exact ⟨t2, st t2 a1, b1⟩
theorem xblind {As : List Value} : FrameBlind (va_Pc As (fun U => xP w M U.heap ∧ xK w U ∧ xD w)) := fun a U g mk q => by
  obtain ⟨q0, qP, qK, qD⟩ := q
  exact ⟨q0, qP, va_K.moved (u := U) (U := U.calling g mk a) (Vm.Alike.refl U.vm) qK, qD⟩
theorem xcallV {index n : Nat} {y : MethodName} {cy : ByteArray} {nY ci q0 N : Nat} {T : u_T} {rY : Option FieldType} {rm : Room} {As : List Value} {res : Option Value} {M2 : xM} {fs : List (Option Nat)} (K : xCW own index y cy nY rY n) (KI : Cond.instanceMethod y ∈ xG ∧ Cond.selects y.cls y y ∈ xG) (X : xX p s m args meth c cc nL ret own w) (hP : xP w M H) (hS : xS w s H locs) (hC : xC l y (Cond.code y cy nY rY) rm w (.ref (xa w q0) :: As) M res M2)
    (he : xlay[q0]? = some (.inr (ci, fs))) (hcl : vwCl[ci]? = some (y.cls, T, N)) (hR : rm.frames + 1 ≤ R.frames ∧ 8 + (nY + 11) + rm.locals ≤ R.locals) (hc : rm.cells = 0 ∧ rm.slots = 0) (hls : ls.size = nL) {st0 : List Value} (hn : As.length = n) (hst : st0 = As.reverse ++ .ref (xa w q0) :: rest) (hW : (rest.map fun v => v.category).sum ≤ 8) (hdg : decode cc pc = .ok (.invokevirtual index, 3)) (hf : cells ≤ R.cells ∧ slots ≤ R.slots)
    (kk : ∀ (H1 : Heap) (locs1 : List Loc), xP w M2 H1 → xS w s H1 locs1 → W p l e R s m args below meth c H1 locs1 cells slots Q (F0 m (pc + 3) ls (res.toList ++ rest))) : W p l e R s m args below meth c H locs cells slots Q (F0 m pc ls st0) :=
  xgo (a := (Value.ref (xa w q0) :: As).toArray) (va_runV (g := F0 m pc ls st0) (Ts := xG) (nL := nL) (own := own) (b := xa w q0) (As := As) ⟨X.1, X.2.1, X.2.2.1, X.2.2.2.2.2.1, X.2.2.2.2.2.2.1⟩ hC ⟨K.B X hR hc.1 hc.2, X.2.2.2.2.2.2.1 _ KI.1, X.2.2.2.2.2.2.1 _ KI.2⟩
    ⟨xblind, va_recv X.2.2.2.2.2.2.2.1 hP hcl (xws_O he), fun U hU hW => ⟨rfl, by rw [hU]; exact hP, va_K.moved hW.alike X.2.2.2.2.2.2.2.1, X.2.2.2.2.2.2.2.2⟩⟩ rfl hn hls hst (lv_room hW) hdg hf) hS kk
theorem xcallS {index n : Nat} {y : MethodName} {cy : ByteArray} {nY : Nat} {rY : Option FieldType} {rm : Room} {As : List Value} {res : Option Value} {M2 : xM} (K : xCW own index y cy nY rY n) (KI : Cond.static y ∈ xG) (X : xX p s m args meth c cc nL ret own w) (hP : xP w M H) (hS : xS w s H locs) (hC : xC l y (Cond.code y cy nY rY) rm w As M res M2)
    (hR : rm.frames + 1 ≤ R.frames ∧ 8 + (nY + 11) + rm.locals ≤ R.locals) (hc : rm.cells = 0 ∧ rm.slots = 0) (hls : ls.size = nL) {st0 : List Value} (hn : As.length = n) (hst : st0 = As.reverse ++ rest) (hW : (rest.map fun v => v.category).sum ≤ 8) (hdg : decode cc pc = .ok (.invokestatic index, 3)) (hf : cells ≤ R.cells ∧ slots ≤ R.slots)
    (kk : ∀ (H1 : Heap) (locs1 : List Loc), xP w M2 H1 → xS w s H1 locs1 → W p l e R s m args below meth c H1 locs1 cells slots Q (F0 m (pc + 3) ls (res.toList ++ rest))) : W p l e R s m args below meth c H locs cells slots Q (F0 m pc ls st0) :=
  xgo (a := As.toArray) (va_runS (g := F0 m pc ls st0) (Ts := xG) (nL := nL) (own := own) (As := As) ⟨X.1, X.2.1, X.2.2.1, X.2.2.2.2.2.1, X.2.2.2.2.2.2.1⟩ hC ⟨K.B X hR hc.1 hc.2, X.2.2.2.2.2.2.1 _ KI⟩
    ⟨xblind, fun U hU hW => ⟨rfl, by rw [hU]; exact hP, va_K.moved hW.alike X.2.2.2.2.2.2.2.1, X.2.2.2.2.2.2.2.2⟩⟩ rfl hn hls hst (lv_room hW) hdg hf) hS kk
theorem xcopy {index : Nat} (hlk : Cond.methodLink own index arraycopyName ∈ xG) (hnat : Cond.native arraycopyName ∈ xG) (hstat : Cond.static arraycopyName ∈ xG) (hini : Cond.initialized "java/lang/System" ∈ xG) (X : xX p s m args meth c cc nL ret own w) (hP : xP w M H) (hS : xS w s H locs) (k0 k1 : Nat) {n0 n1 : Nat} (h0 : xlay[k0]? = some (.inl (false, n0))) (h1 : xlay[k1]? = some (.inl (false, n1))) {sp dp n : Int32} (hin : xcin sp dp n n0 n1) (hls : ls.size = nL)
    (hframes : 1 ≤ R.frames) (hlocals : (rest.map fun v => v.category).sum + (nativeFrameWords "java/lang/System" "arraycopy" 5 + 11) ≤ R.locals) (hdg : decode cc pc = .ok (.invokestatic index, 3))
    (kk : ∀ (M2 : xM) (H1 : Heap) (locs1 : List Loc), M2 = xcp M k0 k1 sp dp n → xP w M2 H1 → xS w s H1 locs1 → W p l e R s m args below meth c H1 locs1 cells slots Q (F0 m (pc + 3) ls rest)) : W p l e R s m args below meth c H locs cells slots Q (F0 m pc ls (.int n :: .int dp :: .ref (xa w k1) :: .int sp :: .ref (xa w k0) :: rest)) :=
  va_copyi X.1 X.2.1 (X.2.2.1.trans hls.symm) X.2.2.2.2.2.1 (X.2.2.2.2.2.2.1 _ hlk) (X.2.2.2.2.2.2.1 _ hnat) (X.2.2.2.2.2.2.1 _ hstat) (X.2.2.2.2.2.2.1 _ hini) X.2.2.2.2.2.2.2.1 hP (X.2.2.2.2.2.2.2.2 M) hS k0 k1 0 0 (f := M k0) (g := M k1) (xws_A h0) (xws_A h1) rfl rfl rfl hin.1 hin.2.1 hin.2.2.1 hin.2.2.2.1 hin.2.2.2.2 (fun _ _ => rfl) hframes hlocals hdg
    (fun H1 locs1 g1 _ g3 => kk _ H1 locs1 rfl (by unfold xP; rw [← xws_setA h1]; exact g1) g3)
theorem xiret {M2 : xM} (X : xX p s m args meth c cc nL (some .int) own w) (hP : xP w M2 H) (hS : xS w s H locs) {v : Int32} (hdg : decode cc pc = .ok (.ireturn, 1)) : W p l e R s m args below meth c H locs 0 0 (xQ w (some (.int v)) M2 below args s) (F0 m pc ls [.int v]) :=
  W.iret X.1 X.2.1 X.2.2.2.1 (fun t ht _ => ⟨rfl, by rw [ht]; exact hP, hS.F ht⟩) hS.2.2 hdg X.2.2.2.2.1
theorem xzret {M2 : xM} (X : xX p s m args meth c cc nL (some .boolean) own w) (hP : xP w M2 H) (hS : xS w s H locs) {v : Int32} (hn : narrow .boolean (.int v) = .int v) (hdg : decode cc pc = .ok (.ireturn, 1)) : W p l e R s m args below meth c H locs 0 0 (xQ w (some (.int v)) M2 below args s) (F0 m pc ls [.int v]) :=
  W.zret X.1 X.2.1 X.2.2.2.1 hn (fun t ht _ => ⟨rfl, by rw [ht]; exact hP, hS.F ht⟩) hS.2.2 hdg X.2.2.2.2.1
theorem xlret {M2 : xM} (X : xX p s m args meth c cc nL (some .long) own w) (hP : xP w M2 H) (hS : xS w s H locs) {v : Int64} (hdg : decode cc pc = .ok (.lreturn, 1)) : W p l e R s m args below meth c H locs 0 0 (xQ w (some (.long v)) M2 below args s) (F0 m pc ls [.long v]) :=
  W.lret X.1 X.2.1 X.2.2.2.1 (fun t ht _ => ⟨rfl, by rw [ht]; exact hP, hS.F ht⟩) hS.2.2 hdg X.2.2.2.2.1
theorem xvret {M2 : xM} (X : xX p s m args meth c cc nL none own w) (hP : xP w M2 H) (hS : xS w s H locs) (hdg : decode cc pc = .ok (.return_, 1)) : W p l e R s m args below meth c H locs 0 0 (xQ w none M2 below args s) (F0 m pc ls []) :=
  W.vret X.1 X.2.1 X.2.2.2.1 (fun t ht _ => ⟨rfl, by rw [ht]; exact hP, hS.F ht⟩) hS.2.2 hdg X.2.2.2.2.1
end XW
/-- a value that is named -/
def xlt {α β : Type} (v : α) (k : α → Option β) : Option β := k v
theorem xltE {α β : Type} {v y : α} {k : α → Option β} {r : β} (h : xlt v k = some r) (hy : y = v) : k y = some r := by rw [hy]; exact h
theorem xift {c : Prop} {α : Type} {a b : Option α} {r : α} {d : Decidable c} (hc : c) (h : @ite _ c d a b = some r) : a = some r := by rw [if_pos hc] at h; exact h
theorem xiff {c : Prop} {α : Type} {a b : Option α} {r : α} {d : Decidable c} (hc : ¬ c) (h : @ite _ c d a b = some r) : b = some r := by rw [if_neg hc] at h; exact h
theorem xifn {c : Prop} {α : Type} {a : Option α} {r : α} {d : Decidable c} (h : @ite _ c d a none = some r) : c ∧ a = some r := by
  by_cases hc : c
  · rw [if_pos hc] at h; exact ⟨hc, h⟩
  · rw [if_neg hc] at h; cases h
theorem xbnd {α β : Type} {o : Option α} {k : α → Option β} {r : β} (h : o.bind k = some r) : ∃ v, o = some v ∧ k v = some r := by
  cases o with
  | none => cases h
  | some v => exact ⟨v, rfl, h⟩
theorem xnon {α : Type} {r : α} {P : Prop} (h : (none : Option α) = some r) : P := by cases h
end
section
theorem xy0 : xlay[0]? = some (.inr (8, [some 1, some 4, some 9, some 25, some 32, some 34, some 35])) := rfl
theorem xy1 : xlay[1]? = some (.inr (6, [some 2, some 3, none])) := rfl
theorem xy2 : xlay[2]? = some (.inl (false, 400)) := rfl
theorem xy3 : xlay[3]? = some (.inl (false, 8)) := rfl
theorem xy4 : xlay[4]? = some (.inr (7, [some 5, some 6, some 7, some 8, none])) := rfl
theorem xy5 : xlay[5]? = some (.inl (false, 408)) := rfl
theorem xy6 : xlay[6]? = some (.inl (false, 408)) := rfl
theorem xy7 : xlay[7]? = some (.inl (false, 8)) := rfl
theorem xy8 : xlay[8]? = some (.inl (false, 8)) := rfl
theorem xy9 : xlay[9]? = some (.inr (3, [some 10, some 11, some 12, some 4, some 13])) := rfl
theorem xy10 : xlay[10]? = some (.inl (false, 408)) := rfl
theorem xy11 : xlay[11]? = some (.inl (false, 408)) := rfl
theorem xy12 : xlay[12]? = some (.inl (false, 408)) := rfl
theorem xy13 : xlay[13]? = some (.inr (4, [some 14, some 15, some 16, some 17, some 18, some 19, some 20, some 21, some 22, some 23, some 24])) := rfl
theorem xy14 : xlay[14]? = some (.inl (false, 408)) := rfl
theorem xy15 : xlay[15]? = some (.inl (false, 816)) := rfl
theorem xy16 : xlay[16]? = some (.inl (true, 816)) := rfl
theorem xy17 : xlay[17]? = some (.inl (false, 816)) := rfl
theorem xy18 : xlay[18]? = some (.inl (false, 11)) := rfl
theorem xy19 : xlay[19]? = some (.inl (false, 11)) := rfl
theorem xy20 : xlay[20]? = some (.inl (false, 11)) := rfl
theorem xy21 : xlay[21]? = some (.inl (false, 408)) := rfl
theorem xy22 : xlay[22]? = some (.inl (false, 408)) := rfl
theorem xy23 : xlay[23]? = some (.inl (false, 1009)) := rfl
theorem xy24 : xlay[24]? = some (.inl (false, 1008)) := rfl
theorem xy25 : xlay[25]? = some (.inr (0, [some 26, some 27, some 28, some 4, some 9, some 29, some 30, some 31])) := rfl
theorem xy26 : xlay[26]? = some (.inl (false, 408)) := rfl
theorem xy27 : xlay[27]? = some (.inl (false, 408)) := rfl
theorem xy28 : xlay[28]? = some (.inl (false, 408)) := rfl
theorem xy29 : xlay[29]? = some (.inl (false, 408)) := rfl
theorem xy30 : xlay[30]? = some (.inl (false, 408)) := rfl
theorem xy31 : xlay[31]? = some (.inl (false, 408)) := rfl
theorem xy32 : xlay[32]? = some (.inr (2, [some 33, some 4, some 9, none])) := rfl
theorem xy33 : xlay[33]? = some (.inl (false, 40)) := rfl
theorem xy34 : xlay[34]? = some (.inr (5, [some 4, some 9])) := rfl
theorem xy35 : xlay[35]? = some (.inr (1, [some 36, some 4, some 9])) := rfl
theorem xy36 : xlay[36]? = some (.inl (false, 408)) := rfl
theorem xy37 : xlay[37]? = some (.inr (9, [some 38, some 39, none, some 40, some 41, some 42, none, some 43, some 44, some 45, some 46, some 47, none, some 48, some 49])) := rfl
theorem xy38 : xlay[38]? = some (.inl (false, 3200)) := rfl
theorem xy39 : xlay[39]? = some (.inl (false, 8)) := rfl
theorem xy40 : xlay[40]? = some (.inl (false, 408)) := rfl
theorem xy41 : xlay[41]? = some (.inl (false, 408)) := rfl
theorem xy42 : xlay[42]? = some (.inl (false, 8)) := rfl
theorem xy43 : xlay[43]? = some (.inl (false, 166464)) := rfl
theorem xy44 : xlay[44]? = some (.inl (false, 408)) := rfl
theorem xy45 : xlay[45]? = some (.inl (false, 408)) := rfl
theorem xy46 : xlay[46]? = some (.inl (false, 408)) := rfl
theorem xy47 : xlay[47]? = some (.inl (false, 40)) := rfl
theorem xy48 : xlay[48]? = some (.inl (false, 8)) := rfl
theorem xy49 : xlay[49]? = some (.inl (true, 408)) := rfl
theorem xiX0 : ∀ v ∈ u_ws RX0 TX0 8, v ∈ lw_tbl := by decide +kernel
theorem xgX0 : ∀ v ∈ u_ws RX0 TX0 8, goodWord v = true := by decide +kernel
theorem xcX0 : xCl RX0 TX0 8 0 tyX0 := ⟨fun v h => List.mem_filter.mpr ⟨xiX0 v h, xgX0 v h⟩, rfl, tyX0_ok, nmX0⟩
theorem xiX1 : ∀ v ∈ u_ws RX1 TX1 3, v ∈ lw_tbl := by decide +kernel
theorem xgX1 : ∀ v ∈ u_ws RX1 TX1 3, goodWord v = true := by decide +kernel
theorem xcX1 : xCl RX1 TX1 3 1 tyX1 := ⟨fun v h => List.mem_filter.mpr ⟨xiX1 v h, xgX1 v h⟩, rfl, tyX1_ok, nmX1⟩
theorem xiX2 : ∀ v ∈ u_ws RX2 TX2 4, v ∈ lw_tbl := by decide +kernel
theorem xgX2 : ∀ v ∈ u_ws RX2 TX2 4, goodWord v = true := by decide +kernel
theorem xcX2 : xCl RX2 TX2 4 2 tyX2 := ⟨fun v h => List.mem_filter.mpr ⟨xiX2 v h, xgX2 v h⟩, rfl, tyX2_ok, nmX2⟩
theorem xiX3 : ∀ v ∈ u_ws RX3 TX3 5, v ∈ lw_tbl := by decide +kernel
theorem xgX3 : ∀ v ∈ u_ws RX3 TX3 5, goodWord v = true := by decide +kernel
theorem xcX3 : xCl RX3 TX3 5 3 tyX3 := ⟨fun v h => List.mem_filter.mpr ⟨xiX3 v h, xgX3 v h⟩, rfl, tyX3_ok, nmX3⟩
theorem xiX4 : ∀ v ∈ u_ws RX4 TX4 11, v ∈ lw_tbl := by decide +kernel
theorem xgX4 : ∀ v ∈ u_ws RX4 TX4 11, goodWord v = true := by decide +kernel
theorem xcX4 : xCl RX4 TX4 11 4 tyX4 := ⟨fun v h => List.mem_filter.mpr ⟨xiX4 v h, xgX4 v h⟩, rfl, tyX4_ok, nmX4⟩
theorem xiX5 : ∀ v ∈ u_ws RX5 TX5 2, v ∈ lw_tbl := by decide +kernel
theorem xgX5 : ∀ v ∈ u_ws RX5 TX5 2, goodWord v = true := by decide +kernel
theorem xcX5 : xCl RX5 TX5 2 5 tyX5 := ⟨fun v h => List.mem_filter.mpr ⟨xiX5 v h, xgX5 v h⟩, rfl, tyX5_ok, nmX5⟩
theorem xiX6 : ∀ v ∈ u_ws RX6 TX6 3, v ∈ lw_tbl := by decide +kernel
theorem xgX6 : ∀ v ∈ u_ws RX6 TX6 3, goodWord v = true := by decide +kernel
theorem xcX6 : xCl RX6 TX6 3 6 tyX6 := ⟨fun v h => List.mem_filter.mpr ⟨xiX6 v h, xgX6 v h⟩, rfl, tyX6_ok, nmX6⟩
theorem xiX7 : ∀ v ∈ u_ws RX7 TX7 5, v ∈ lw_tbl := by decide +kernel
theorem xgX7 : ∀ v ∈ u_ws RX7 TX7 5, goodWord v = true := by decide +kernel
theorem xcX7 : xCl RX7 TX7 5 7 tyX7 := ⟨fun v h => List.mem_filter.mpr ⟨xiX7 v h, xgX7 v h⟩, rfl, tyX7_ok, nmX7⟩
theorem xiX8 : ∀ v ∈ u_ws RX8 TX8 7, v ∈ lw_tbl := by decide +kernel
theorem xgX8 : ∀ v ∈ u_ws RX8 TX8 7, goodWord v = true := by decide +kernel
theorem xcX8 : xCl RX8 TX8 7 8 tyX8 := ⟨fun v h => List.mem_filter.mpr ⟨xiX8 v h, xgX8 v h⟩, rfl, tyX8_ok, nmX8⟩
theorem xiX9 : ∀ v ∈ u_ws RX9 TX9 15, v ∈ lw_tbl := by decide +kernel
theorem xgX9 : ∀ v ∈ u_ws RX9 TX9 15, goodWord v = true := by decide +kernel
theorem xcX9 : xCl RX9 TX9 15 9 tyX9 := ⟨fun v h => List.mem_filter.mpr ⟨xiX9 v h, xgX9 v h⟩, rfl, tyX9_ok, nmX9⟩
theorem xf_X6_9 : Cond.fieldLink RX6 9 (TX6 0).1 (TX6 0).2.1 (TX6 0).2.2.1 ∈ xG := xmG 29 (by decide +kernel) (by decide +kernel)
theorem xf_X7_33 : Cond.fieldLink RX7 33 (TX6 0).1 (TX6 0).2.1 (TX6 0).2.2.1 ∈ xG := xmG 30 (by decide +kernel) (by decide +kernel)
theorem xf_X6_15 : Cond.fieldLink RX6 15 (TX6 1).1 (TX6 1).2.1 (TX6 1).2.2.1 ∈ xG := xmG 31 (by decide +kernel) (by decide +kernel)
theorem xf_X7_28 : Cond.fieldLink RX7 28 (TX6 1).1 (TX6 1).2.1 (TX6 1).2.2.1 ∈ xG := xmG 32 (by decide +kernel) (by decide +kernel)
theorem xf_X8_78 : Cond.fieldLink RX8 78 (TX6 1).1 (TX6 1).2.1 (TX6 1).2.2.1 ∈ xG := xmG 33 (by decide +kernel) (by decide +kernel)
theorem xf_X8_70 : Cond.fieldLink RX8 70 (TX6 2).1 (TX6 2).2.1 (TX6 2).2.2.1 ∈ xG := xmG 34 (by decide +kernel) (by decide +kernel)
theorem xf_X6_18 : Cond.fieldLink RX6 18 (TX6 2).1 (TX6 2).2.1 (TX6 2).2.2.1 ∈ xG := xmG 35 (by decide +kernel) (by decide +kernel)
theorem xf_X7_9 : Cond.fieldLink RX7 9 (TX7 0).1 (TX7 0).2.1 (TX7 0).2.2.1 ∈ xG := xmG 50 (by decide +kernel) (by decide +kernel)
theorem xf_X3_32 : Cond.fieldLink RX3 32 (TX7 0).1 (TX7 0).2.1 (TX7 0).2.2.1 ∈ xG := xmG 51 (by decide +kernel) (by decide +kernel)
theorem xf_X2_44 : Cond.fieldLink RX2 44 (TX7 0).1 (TX7 0).2.1 (TX7 0).2.2.1 ∈ xG := xmG 52 (by decide +kernel) (by decide +kernel)
theorem xf_X7_15 : Cond.fieldLink RX7 15 (TX7 1).1 (TX7 1).2.1 (TX7 1).2.2.1 ∈ xG := xmG 53 (by decide +kernel) (by decide +kernel)
theorem xf_X3_61 : Cond.fieldLink RX3 61 (TX7 1).1 (TX7 1).2.1 (TX7 1).2.2.1 ∈ xG := xmG 54 (by decide +kernel) (by decide +kernel)
theorem xf_X8_106 : Cond.fieldLink RX8 106 (TX7 1).1 (TX7 1).2.1 (TX7 1).2.2.1 ∈ xG := xmG 55 (by decide +kernel) (by decide +kernel)
theorem xf_X7_18 : Cond.fieldLink RX7 18 (TX7 2).1 (TX7 2).2.1 (TX7 2).2.2.1 ∈ xG := xmG 56 (by decide +kernel) (by decide +kernel)
theorem xf_X8_109 : Cond.fieldLink RX8 109 (TX7 2).1 (TX7 2).2.1 (TX7 2).2.2.1 ∈ xG := xmG 57 (by decide +kernel) (by decide +kernel)
theorem xf_X7_21 : Cond.fieldLink RX7 21 (TX7 3).1 (TX7 3).2.1 (TX7 3).2.2.1 ∈ xG := xmG 58 (by decide +kernel) (by decide +kernel)
theorem xf_X7_24 : Cond.fieldLink RX7 24 (TX7 4).1 (TX7 4).2.1 (TX7 4).2.2.1 ∈ xG := xmG 59 (by decide +kernel) (by decide +kernel)
theorem xf_X0_41 : Cond.fieldLink RX0 41 (TX7 4).1 (TX7 4).2.1 (TX7 4).2.2.1 ∈ xG := xmG 60 (by decide +kernel) (by decide +kernel)
theorem xf_X5_19 : Cond.fieldLink RX5 19 (TX7 4).1 (TX7 4).2.1 (TX7 4).2.2.1 ∈ xG := xmG 61 (by decide +kernel) (by decide +kernel)
theorem xf_X3_37 : Cond.fieldLink RX3 37 (TX7 4).1 (TX7 4).2.1 (TX7 4).2.2.1 ∈ xG := xmG 62 (by decide +kernel) (by decide +kernel)
theorem xf_X1_28 : Cond.fieldLink RX1 28 (TX7 4).1 (TX7 4).2.1 (TX7 4).2.2.1 ∈ xG := xmG 63 (by decide +kernel) (by decide +kernel)
theorem xf_X2_27 : Cond.fieldLink RX2 27 (TX7 4).1 (TX7 4).2.1 (TX7 4).2.2.1 ∈ xG := xmG 64 (by decide +kernel) (by decide +kernel)
theorem xf_X8_96 : Cond.fieldLink RX8 96 (TX7 4).1 (TX7 4).2.1 (TX7 4).2.2.1 ∈ xG := xmG 65 (by decide +kernel) (by decide +kernel)
theorem xf_X4_9 : Cond.fieldLink RX4 9 (TX4 0).1 (TX4 0).2.1 (TX4 0).2.2.1 ∈ xG := xmG 89 (by decide +kernel) (by decide +kernel)
theorem xf_X3_45 : Cond.fieldLink RX3 45 (TX4 0).1 (TX4 0).2.1 (TX4 0).2.2.1 ∈ xG := xmG 90 (by decide +kernel) (by decide +kernel)
theorem xf_X4_15 : Cond.fieldLink RX4 15 (TX4 1).1 (TX4 1).2.1 (TX4 1).2.2.1 ∈ xG := xmG 91 (by decide +kernel) (by decide +kernel)
theorem xf_X4_18 : Cond.fieldLink RX4 18 (TX4 2).1 (TX4 2).2.1 (TX4 2).2.2.1 ∈ xG := xmG 92 (by decide +kernel) (by decide +kernel)
theorem xf_X4_22 : Cond.fieldLink RX4 22 (TX4 3).1 (TX4 3).2.1 (TX4 3).2.2.1 ∈ xG := xmG 93 (by decide +kernel) (by decide +kernel)
theorem xf_X4_25 : Cond.fieldLink RX4 25 (TX4 4).1 (TX4 4).2.1 (TX4 4).2.2.1 ∈ xG := xmG 94 (by decide +kernel) (by decide +kernel)
theorem xf_X4_28 : Cond.fieldLink RX4 28 (TX4 5).1 (TX4 5).2.1 (TX4 5).2.2.1 ∈ xG := xmG 95 (by decide +kernel) (by decide +kernel)
theorem xf_X4_31 : Cond.fieldLink RX4 31 (TX4 6).1 (TX4 6).2.1 (TX4 6).2.2.1 ∈ xG := xmG 96 (by decide +kernel) (by decide +kernel)
theorem xf_X4_34 : Cond.fieldLink RX4 34 (TX4 7).1 (TX4 7).2.1 (TX4 7).2.2.1 ∈ xG := xmG 97 (by decide +kernel) (by decide +kernel)
theorem xf_X4_37 : Cond.fieldLink RX4 37 (TX4 8).1 (TX4 8).2.1 (TX4 8).2.2.1 ∈ xG := xmG 98 (by decide +kernel) (by decide +kernel)
theorem xf_X4_40 : Cond.fieldLink RX4 40 (TX4 9).1 (TX4 9).2.1 (TX4 9).2.2.1 ∈ xG := xmG 99 (by decide +kernel) (by decide +kernel)
theorem xf_X4_43 : Cond.fieldLink RX4 43 (TX4 10).1 (TX4 10).2.1 (TX4 10).2.2.1 ∈ xG := xmG 100 (by decide +kernel) (by decide +kernel)
theorem xf_X3_9 : Cond.fieldLink RX3 9 (TX3 0).1 (TX3 0).2.1 (TX3 0).2.2.1 ∈ xG := xmG 125 (by decide +kernel) (by decide +kernel)
theorem xf_X1_23 : Cond.fieldLink RX1 23 (TX3 0).1 (TX3 0).2.1 (TX3 0).2.2.1 ∈ xG := xmG 126 (by decide +kernel) (by decide +kernel)
theorem xf_X5_25 : Cond.fieldLink RX5 25 (TX3 0).1 (TX3 0).2.1 (TX3 0).2.2.1 ∈ xG := xmG 127 (by decide +kernel) (by decide +kernel)
theorem xf_X2_32 : Cond.fieldLink RX2 32 (TX3 0).1 (TX3 0).2.1 (TX3 0).2.2.1 ∈ xG := xmG 128 (by decide +kernel) (by decide +kernel)
theorem xf_X0_75 : Cond.fieldLink RX0 75 (TX3 0).1 (TX3 0).2.1 (TX3 0).2.2.1 ∈ xG := xmG 129 (by decide +kernel) (by decide +kernel)
theorem xf_X8_112 : Cond.fieldLink RX8 112 (TX3 0).1 (TX3 0).2.1 (TX3 0).2.2.1 ∈ xG := xmG 130 (by decide +kernel) (by decide +kernel)
theorem xf_X3_15 : Cond.fieldLink RX3 15 (TX3 1).1 (TX3 1).2.1 (TX3 1).2.2.1 ∈ xG := xmG 131 (by decide +kernel) (by decide +kernel)
theorem xf_X0_51 : Cond.fieldLink RX0 51 (TX3 1).1 (TX3 1).2.1 (TX3 1).2.2.1 ∈ xG := xmG 132 (by decide +kernel) (by decide +kernel)
theorem xf_X1_44 : Cond.fieldLink RX1 44 (TX3 1).1 (TX3 1).2.1 (TX3 1).2.2.1 ∈ xG := xmG 133 (by decide +kernel) (by decide +kernel)
theorem xf_X2_54 : Cond.fieldLink RX2 54 (TX3 1).1 (TX3 1).2.1 (TX3 1).2.2.1 ∈ xG := xmG 134 (by decide +kernel) (by decide +kernel)
theorem xf_X8_115 : Cond.fieldLink RX8 115 (TX3 1).1 (TX3 1).2.1 (TX3 1).2.2.1 ∈ xG := xmG 135 (by decide +kernel) (by decide +kernel)
theorem xf_X3_18 : Cond.fieldLink RX3 18 (TX3 2).1 (TX3 2).2.1 (TX3 2).2.2.1 ∈ xG := xmG 136 (by decide +kernel) (by decide +kernel)
theorem xf_X5_35 : Cond.fieldLink RX5 35 (TX3 2).1 (TX3 2).2.1 (TX3 2).2.2.1 ∈ xG := xmG 137 (by decide +kernel) (by decide +kernel)
theorem xf_X0_66 : Cond.fieldLink RX0 66 (TX3 2).1 (TX3 2).2.1 (TX3 2).2.2.1 ∈ xG := xmG 138 (by decide +kernel) (by decide +kernel)
theorem xf_X8_118 : Cond.fieldLink RX8 118 (TX3 2).1 (TX3 2).2.1 (TX3 2).2.2.1 ∈ xG := xmG 139 (by decide +kernel) (by decide +kernel)
theorem xf_X3_28 : Cond.fieldLink RX3 28 (TX3 3).1 (TX3 3).2.1 (TX3 3).2.2.1 ∈ xG := xmG 140 (by decide +kernel) (by decide +kernel)
theorem xf_X3_24 : Cond.fieldLink RX3 24 (TX3 4).1 (TX3 4).2.1 (TX3 4).2.2.1 ∈ xG := xmG 141 (by decide +kernel) (by decide +kernel)
theorem xf_X0_9 : Cond.fieldLink RX0 9 (TX0 0).1 (TX0 0).2.1 (TX0 0).2.2.1 ∈ xG := xmG 159 (by decide +kernel) (by decide +kernel)
theorem xf_X8_128 : Cond.fieldLink RX8 128 (TX0 0).1 (TX0 0).2.1 (TX0 0).2.2.1 ∈ xG := xmG 160 (by decide +kernel) (by decide +kernel)
theorem xf_X0_15 : Cond.fieldLink RX0 15 (TX0 1).1 (TX0 1).2.1 (TX0 1).2.2.1 ∈ xG := xmG 161 (by decide +kernel) (by decide +kernel)
theorem xf_X8_129 : Cond.fieldLink RX8 129 (TX0 1).1 (TX0 1).2.1 (TX0 1).2.2.1 ∈ xG := xmG 162 (by decide +kernel) (by decide +kernel)
theorem xf_X0_18 : Cond.fieldLink RX0 18 (TX0 2).1 (TX0 2).2.1 (TX0 2).2.2.1 ∈ xG := xmG 163 (by decide +kernel) (by decide +kernel)
theorem xf_X8_132 : Cond.fieldLink RX8 132 (TX0 2).1 (TX0 2).2.1 (TX0 2).2.2.1 ∈ xG := xmG 164 (by decide +kernel) (by decide +kernel)
theorem xf_X0_30 : Cond.fieldLink RX0 30 (TX0 3).1 (TX0 3).2.1 (TX0 3).2.2.1 ∈ xG := xmG 165 (by decide +kernel) (by decide +kernel)
theorem xf_X0_34 : Cond.fieldLink RX0 34 (TX0 4).1 (TX0 4).2.1 (TX0 4).2.2.1 ∈ xG := xmG 166 (by decide +kernel) (by decide +kernel)
theorem xf_X0_21 : Cond.fieldLink RX0 21 (TX0 5).1 (TX0 5).2.1 (TX0 5).2.2.1 ∈ xG := xmG 167 (by decide +kernel) (by decide +kernel)
theorem xf_X0_24 : Cond.fieldLink RX0 24 (TX0 6).1 (TX0 6).2.1 (TX0 6).2.2.1 ∈ xG := xmG 168 (by decide +kernel) (by decide +kernel)
theorem xf_X0_27 : Cond.fieldLink RX0 27 (TX0 7).1 (TX0 7).2.1 (TX0 7).2.2.1 ∈ xG := xmG 169 (by decide +kernel) (by decide +kernel)
theorem xf_X2_9 : Cond.fieldLink RX2 9 (TX2 0).1 (TX2 0).2.1 (TX2 0).2.2.1 ∈ xG := xmG 193 (by decide +kernel) (by decide +kernel)
theorem xf_X2_15 : Cond.fieldLink RX2 15 (TX2 1).1 (TX2 1).2.1 (TX2 1).2.2.1 ∈ xG := xmG 194 (by decide +kernel) (by decide +kernel)
theorem xf_X2_19 : Cond.fieldLink RX2 19 (TX2 2).1 (TX2 2).2.1 (TX2 2).2.2.1 ∈ xG := xmG 195 (by decide +kernel) (by decide +kernel)
theorem xf_X2_23 : Cond.fieldLink RX2 23 (TX2 3).1 (TX2 3).2.1 (TX2 3).2.2.1 ∈ xG := xmG 196 (by decide +kernel) (by decide +kernel)
theorem xf_X8_135 : Cond.fieldLink RX8 135 (TX2 3).1 (TX2 3).2.1 (TX2 3).2.2.1 ∈ xG := xmG 197 (by decide +kernel) (by decide +kernel)
theorem xf_X5_9 : Cond.fieldLink RX5 9 (TX5 0).1 (TX5 0).2.1 (TX5 0).2.2.1 ∈ xG := xmG 213 (by decide +kernel) (by decide +kernel)
theorem xf_X5_15 : Cond.fieldLink RX5 15 (TX5 1).1 (TX5 1).2.1 (TX5 1).2.2.1 ∈ xG := xmG 214 (by decide +kernel) (by decide +kernel)
theorem xf_X1_9 : Cond.fieldLink RX1 9 (TX1 0).1 (TX1 0).2.1 (TX1 0).2.2.1 ∈ xG := xmG 226 (by decide +kernel) (by decide +kernel)
theorem xf_X8_174 : Cond.fieldLink RX8 174 (TX1 0).1 (TX1 0).2.1 (TX1 0).2.2.1 ∈ xG := xmG 227 (by decide +kernel) (by decide +kernel)
theorem xf_X1_15 : Cond.fieldLink RX1 15 (TX1 1).1 (TX1 1).2.1 (TX1 1).2.2.1 ∈ xG := xmG 228 (by decide +kernel) (by decide +kernel)
theorem xf_X1_19 : Cond.fieldLink RX1 19 (TX1 2).1 (TX1 2).2.1 (TX1 2).2.2.1 ∈ xG := xmG 229 (by decide +kernel) (by decide +kernel)
theorem xf_X8_12 : Cond.fieldLink RX8 12 (TX8 0).1 (TX8 0).2.1 (TX8 0).2.2.1 ∈ xG := xmG 237 (by decide +kernel) (by decide +kernel)
theorem xf_X8_19 : Cond.fieldLink RX8 19 (TX8 1).1 (TX8 1).2.1 (TX8 1).2.2.1 ∈ xG := xmG 238 (by decide +kernel) (by decide +kernel)
theorem xf_X8_28 : Cond.fieldLink RX8 28 (TX8 2).1 (TX8 2).2.1 (TX8 2).2.2.1 ∈ xG := xmG 239 (by decide +kernel) (by decide +kernel)
theorem xf_X8_37 : Cond.fieldLink RX8 37 (TX8 3).1 (TX8 3).2.1 (TX8 3).2.2.1 ∈ xG := xmG 240 (by decide +kernel) (by decide +kernel)
theorem xf_X8_44 : Cond.fieldLink RX8 44 (TX8 4).1 (TX8 4).2.1 (TX8 4).2.2.1 ∈ xG := xmG 241 (by decide +kernel) (by decide +kernel)
theorem xf_X8_51 : Cond.fieldLink RX8 51 (TX8 5).1 (TX8 5).2.1 (TX8 5).2.2.1 ∈ xG := xmG 242 (by decide +kernel) (by decide +kernel)
theorem xf_X8_58 : Cond.fieldLink RX8 58 (TX8 6).1 (TX8 6).2.1 (TX8 6).2.2.1 ∈ xG := xmG 243 (by decide +kernel) (by decide +kernel)
theorem xf_X9_7 : Cond.fieldLink RX9 7 (TX9 0).1 (TX9 0).2.1 (TX9 0).2.2.1 ∈ xG := xmG 627 (by decide +kernel) (by decide +kernel)
theorem xf_X9_13 : Cond.fieldLink RX9 13 (TX9 1).1 (TX9 1).2.1 (TX9 1).2.2.1 ∈ xG := xmG 628 (by decide +kernel) (by decide +kernel)
theorem xf_X9_52 : Cond.fieldLink RX9 52 (TX9 2).1 (TX9 2).2.1 (TX9 2).2.2.1 ∈ xG := xmG 629 (by decide +kernel) (by decide +kernel)
theorem xf_X9_16 : Cond.fieldLink RX9 16 (TX9 3).1 (TX9 3).2.1 (TX9 3).2.2.1 ∈ xG := xmG 630 (by decide +kernel) (by decide +kernel)
theorem xf_X9_19 : Cond.fieldLink RX9 19 (TX9 4).1 (TX9 4).2.1 (TX9 4).2.2.1 ∈ xG := xmG 631 (by decide +kernel) (by decide +kernel)
theorem xf_X9_22 : Cond.fieldLink RX9 22 (TX9 5).1 (TX9 5).2.1 (TX9 5).2.2.1 ∈ xG := xmG 632 (by decide +kernel) (by decide +kernel)
theorem xf_X9_48 : Cond.fieldLink RX9 48 (TX9 6).1 (TX9 6).2.1 (TX9 6).2.2.1 ∈ xG := xmG 633 (by decide +kernel) (by decide +kernel)
theorem xf_X9_26 : Cond.fieldLink RX9 26 (TX9 7).1 (TX9 7).2.1 (TX9 7).2.2.1 ∈ xG := xmG 634 (by decide +kernel) (by decide +kernel)
theorem xf_X9_29 : Cond.fieldLink RX9 29 (TX9 8).1 (TX9 8).2.1 (TX9 8).2.2.1 ∈ xG := xmG 635 (by decide +kernel) (by decide +kernel)
theorem xf_X9_32 : Cond.fieldLink RX9 32 (TX9 9).1 (TX9 9).2.1 (TX9 9).2.2.1 ∈ xG := xmG 636 (by decide +kernel) (by decide +kernel)
theorem xf_X9_35 : Cond.fieldLink RX9 35 (TX9 10).1 (TX9 10).2.1 (TX9 10).2.2.1 ∈ xG := xmG 637 (by decide +kernel) (by decide +kernel)
theorem xf_X9_38 : Cond.fieldLink RX9 38 (TX9 11).1 (TX9 11).2.1 (TX9 11).2.2.1 ∈ xG := xmG 638 (by decide +kernel) (by decide +kernel)
theorem xf_X9_88 : Cond.fieldLink RX9 88 (TX9 12).1 (TX9 12).2.1 (TX9 12).2.2.1 ∈ xG := xmG 639 (by decide +kernel) (by decide +kernel)
theorem xf_X9_41 : Cond.fieldLink RX9 41 (TX9 13).1 (TX9 13).2.1 (TX9 13).2.2.1 ∈ xG := xmG 640 (by decide +kernel) (by decide +kernel)
theorem xf_X9_44 : Cond.fieldLink RX9 44 (TX9 14).1 (TX9 14).2.1 (TX9 14).2.2.1 ∈ xG := xmG 641 (by decide +kernel) (by decide +kernel)
theorem xo_X8_init : Cond.code yX8_init cX8_init 1 none ∈ xG := xmG 19 (by decide +kernel) (by decide +kernel)
theorem xn_X8_init : Cond.initialized yX8_init.cls ∈ xG := xmG 1 (by decide +kernel) (by decide +kernel)
theorem xm_L_9 : xCW RL 9 yX8_init cX8_init 1 none 0 := ⟨xo_X8_init, xn_X8_init, xmG 17 (by decide +kernel) (by decide +kernel), by decide +kernel⟩
theorem xo_X3_init : Cond.code yX3_init cX3_init 2 none ∈ xG := xmG 81 (by decide +kernel) (by decide +kernel)
theorem xn_X3_init : Cond.initialized yX3_init.cls ∈ xG := xmG 4 (by decide +kernel) (by decide +kernel)
theorem xm_X8_25 : xCW RX8 25 yX3_init cX3_init 2 none 1 := ⟨xo_X3_init, xn_X3_init, xmG 79 (by decide +kernel) (by decide +kernel), by decide +kernel⟩
theorem xo_X0_init : Cond.code yX0_init cX0_init 3 none ∈ xG := xmG 157 (by decide +kernel) (by decide +kernel)
theorem xn_X0_init : Cond.initialized yX0_init.cls ∈ xG := xmG 6 (by decide +kernel) (by decide +kernel)
theorem xm_X8_34 : xCW RX8 34 yX0_init cX0_init 3 none 2 := ⟨xo_X0_init, xn_X0_init, xmG 155 (by decide +kernel) (by decide +kernel), by decide +kernel⟩
theorem xo_X2_init : Cond.code yX2_init cX2_init 3 none ∈ xG := xmG 191 (by decide +kernel) (by decide +kernel)
theorem xn_X2_init : Cond.initialized yX2_init.cls ∈ xG := xmG 7 (by decide +kernel) (by decide +kernel)
theorem xm_X8_43 : xCW RX8 43 yX2_init cX2_init 3 none 2 := ⟨xo_X2_init, xn_X2_init, xmG 189 (by decide +kernel) (by decide +kernel), by decide +kernel⟩
theorem xo_X5_init : Cond.code yX5_init cX5_init 3 none ∈ xG := xmG 211 (by decide +kernel) (by decide +kernel)
theorem xn_X5_init : Cond.initialized yX5_init.cls ∈ xG := xmG 8 (by decide +kernel) (by decide +kernel)
theorem xm_X8_50 : xCW RX8 50 yX5_init cX5_init 3 none 2 := ⟨xo_X5_init, xn_X5_init, xmG 209 (by decide +kernel) (by decide +kernel), by decide +kernel⟩
theorem xo_X1_init : Cond.code yX1_init cX1_init 3 none ∈ xG := xmG 224 (by decide +kernel) (by decide +kernel)
theorem xn_X1_init : Cond.initialized yX1_init.cls ∈ xG := xmG 9 (by decide +kernel) (by decide +kernel)
theorem xm_X8_57 : xCW RX8 57 yX1_init cX1_init 3 none 2 := ⟨xo_X1_init, xn_X1_init, xmG 222 (by decide +kernel) (by decide +kernel), by decide +kernel⟩
theorem xo_X8_add : Cond.code yX8_add cX8_add 7 (some .int) ∈ xG := xmG 262 (by decide +kernel) (by decide +kernel)
theorem xn_X8_add : Cond.initialized yX8_add.cls ∈ xG := xmG 1 (by decide +kernel) (by decide +kernel)
theorem xt_X8_add : Cond.instanceMethod yX8_add ∈ xG ∧ Cond.selects yX8_add.cls yX8_add yX8_add ∈ xG := ⟨xmG 260 (by decide +kernel) (by decide +kernel), xmG 261 (by decide +kernel) (by decide +kernel)⟩
theorem xm_L_13 : xCW RL 13 yX8_add cX8_add 7 (some .int) 5 := ⟨xo_X8_add, xn_X8_add, xmG 259 (by decide +kernel) (by decide +kernel), by decide +kernel⟩
theorem xo_X8_countSigns : Cond.code yX8_countSigns cX8_countSigns 4 (some .int) ∈ xG := xmG 265 (by decide +kernel) (by decide +kernel)
theorem xn_X8_countSigns : Cond.initialized yX8_countSigns.cls ∈ xG := xmG 1 (by decide +kernel) (by decide +kernel)
theorem xt_X8_countSigns : Cond.static yX8_countSigns ∈ xG := xmG 264 (by decide +kernel) (by decide +kernel)
theorem xm_X8_62 : xCW RX8 62 yX8_countSigns cX8_countSigns 4 (some .int) 4 := ⟨xo_X8_countSigns, xn_X8_countSigns, xmG 263 (by decide +kernel) (by decide +kernel), by decide +kernel⟩
theorem xo_X8_isSignOrNone : Cond.code yX8_isSignOrNone cX8_isSignOrNone 1 (some .boolean) ∈ xG := xmG 268 (by decide +kernel) (by decide +kernel)
theorem xn_X8_isSignOrNone : Cond.initialized yX8_isSignOrNone.cls ∈ xG := xmG 1 (by decide +kernel) (by decide +kernel)
theorem xt_X8_isSignOrNone : Cond.static yX8_isSignOrNone ∈ xG := xmG 267 (by decide +kernel) (by decide +kernel)
theorem xm_X8_184 : xCW RX8 184 yX8_isSignOrNone cX8_isSignOrNone 1 (some .boolean) 1 := ⟨xo_X8_isSignOrNone, xn_X8_isSignOrNone, xmG 266 (by decide +kernel) (by decide +kernel), by decide +kernel⟩
theorem xo_X8_oneIfSign : Cond.code yX8_oneIfSign cX8_oneIfSign 1 (some .int) ∈ xG := xmG 271 (by decide +kernel) (by decide +kernel)
theorem xn_X8_oneIfSign : Cond.initialized yX8_oneIfSign.cls ∈ xG := xmG 1 (by decide +kernel) (by decide +kernel)
theorem xt_X8_oneIfSign : Cond.static yX8_oneIfSign ∈ xG := xmG 270 (by decide +kernel) (by decide +kernel)
theorem xm_X8_187 : xCW RX8 187 yX8_oneIfSign cX8_oneIfSign 1 (some .int) 1 := ⟨xo_X8_oneIfSign, xn_X8_oneIfSign, xmG 269 (by decide +kernel) (by decide +kernel), by decide +kernel⟩
theorem xo_X8_isText : Cond.code yX8_isText cX8_isText 1 (some .boolean) ∈ xG := xmG 274 (by decide +kernel) (by decide +kernel)
theorem xn_X8_isText : Cond.initialized yX8_isText.cls ∈ xG := xmG 1 (by decide +kernel) (by decide +kernel)
theorem xt_X8_isText : Cond.static yX8_isText ∈ xG := xmG 273 (by decide +kernel) (by decide +kernel)
theorem xm_X8_66 : xCW RX8 66 yX8_isText cX8_isText 1 (some .boolean) 1 := ⟨xo_X8_isText, xn_X8_isText, xmG 272 (by decide +kernel) (by decide +kernel), by decide +kernel⟩
theorem xo_X6_append : Cond.code yX6_append cX6_append 4 none ∈ xG := xmG 278 (by decide +kernel) (by decide +kernel)
theorem xn_X6_append : Cond.initialized yX6_append.cls ∈ xG := xmG 2 (by decide +kernel) (by decide +kernel)
theorem xt_X6_append : Cond.instanceMethod yX6_append ∈ xG ∧ Cond.selects yX6_append.cls yX6_append yX6_append ∈ xG := ⟨xmG 276 (by decide +kernel) (by decide +kernel), xmG 277 (by decide +kernel) (by decide +kernel)⟩
theorem xm_X8_74 : xCW RX8 74 yX6_append cX6_append 4 none 2 := ⟨xo_X6_append, xn_X6_append, xmG 275 (by decide +kernel) (by decide +kernel), by decide +kernel⟩
theorem xo_X6_endOf : Cond.code yX6_endOf cX6_endOf 4 (some .int) ∈ xG := xmG 282 (by decide +kernel) (by decide +kernel)
theorem xn_X6_endOf : Cond.initialized yX6_endOf.cls ∈ xG := xmG 2 (by decide +kernel) (by decide +kernel)
theorem xt_X6_endOf : Cond.instanceMethod yX6_endOf ∈ xG ∧ Cond.selects yX6_endOf.cls yX6_endOf yX6_endOf ∈ xG := ⟨xmG 280 (by decide +kernel) (by decide +kernel), xmG 281 (by decide +kernel) (by decide +kernel)⟩
theorem xm_X6_22 : xCW RX6 22 yX6_endOf cX6_endOf 4 (some .int) 1 := ⟨xo_X6_endOf, xn_X6_endOf, xmG 279 (by decide +kernel) (by decide +kernel), by decide +kernel⟩
theorem xm_X6_26 : Cond.methodLink RX6 26 arraycopyName ∈ xG := xmG 283 (by decide +kernel) (by decide +kernel)
theorem xo_X8_cut : Cond.code yX8_cut cX8_cut 3 (some .int) ∈ xG := xmG 289 (by decide +kernel) (by decide +kernel)
theorem xn_X8_cut : Cond.initialized yX8_cut.cls ∈ xG := xmG 1 (by decide +kernel) (by decide +kernel)
theorem xt_X8_cut : Cond.instanceMethod yX8_cut ∈ xG ∧ Cond.selects yX8_cut.cls yX8_cut yX8_cut ∈ xG := ⟨xmG 287 (by decide +kernel) (by decide +kernel), xmG 288 (by decide +kernel) (by decide +kernel)⟩
theorem xm_L_18 : xCW RL 18 yX8_cut cX8_cut 3 (some .int) 2 := ⟨xo_X8_cut, xn_X8_cut, xmG 286 (by decide +kernel) (by decide +kernel), by decide +kernel⟩
theorem xo_X6_dropLast : Cond.code yX6_dropLast cX6_dropLast 4 none ∈ xG := xmG 293 (by decide +kernel) (by decide +kernel)
theorem xn_X6_dropLast : Cond.initialized yX6_dropLast.cls ∈ xG := xmG 2 (by decide +kernel) (by decide +kernel)
theorem xt_X6_dropLast : Cond.instanceMethod yX6_dropLast ∈ xG ∧ Cond.selects yX6_dropLast.cls yX6_dropLast yX6_dropLast ∈ xG := ⟨xmG 291 (by decide +kernel) (by decide +kernel), xmG 292 (by decide +kernel) (by decide +kernel)⟩
theorem xm_X8_82 : xCW RX8 82 yX6_dropLast cX6_dropLast 4 none 2 := ⟨xo_X6_dropLast, xn_X6_dropLast, xmG 290 (by decide +kernel) (by decide +kernel), by decide +kernel⟩
theorem xo_X8_build : Cond.code yX8_build cX8_build 1 (some .int) ∈ xG := xmG 297 (by decide +kernel) (by decide +kernel)
theorem xn_X8_build : Cond.initialized yX8_build.cls ∈ xG := xmG 1 (by decide +kernel) (by decide +kernel)
theorem xt_X8_build : Cond.instanceMethod yX8_build ∈ xG ∧ Cond.selects yX8_build.cls yX8_build yX8_build ∈ xG := ⟨xmG 295 (by decide +kernel) (by decide +kernel), xmG 296 (by decide +kernel) (by decide +kernel)⟩
theorem xm_L_23 : xCW RL 23 yX8_build cX8_build 1 (some .int) 0 := ⟨xo_X8_build, xn_X8_build, xmG 294 (by decide +kernel) (by decide +kernel), by decide +kernel⟩
theorem xo_X7_lay : Cond.code yX7_lay cX7_lay 5 none ∈ xG := xmG 301 (by decide +kernel) (by decide +kernel)
theorem xn_X7_lay : Cond.initialized yX7_lay.cls ∈ xG := xmG 3 (by decide +kernel) (by decide +kernel)
theorem xt_X7_lay : Cond.instanceMethod yX7_lay ∈ xG ∧ Cond.selects yX7_lay.cls yX7_lay yX7_lay ∈ xG := ⟨xmG 299 (by decide +kernel) (by decide +kernel), xmG 300 (by decide +kernel) (by decide +kernel)⟩
theorem xm_X8_85 : xCW RX8 85 yX7_lay cX7_lay 5 none 1 := ⟨xo_X7_lay, xn_X7_lay, xmG 298 (by decide +kernel) (by decide +kernel), by decide +kernel⟩
theorem xo_X7_layLetter : Cond.code yX7_layLetter cX7_layLetter 3 none ∈ xG := xmG 305 (by decide +kernel) (by decide +kernel)
theorem xn_X7_layLetter : Cond.initialized yX7_layLetter.cls ∈ xG := xmG 3 (by decide +kernel) (by decide +kernel)
theorem xt_X7_layLetter : Cond.instanceMethod yX7_layLetter ∈ xG ∧ Cond.selects yX7_layLetter.cls yX7_layLetter yX7_layLetter ∈ xG := ⟨xmG 304 (by decide +kernel) (by decide +kernel), xmS 0 (by decide +kernel) (by decide +kernel)⟩
theorem xm_X7_36 : xCW RX7 36 yX7_layLetter cX7_layLetter 3 none 2 := ⟨xo_X7_layLetter, xn_X7_layLetter, xmG 302 (by decide +kernel) (by decide +kernel), by decide +kernel⟩
theorem xo_X3_make : Cond.code yX3_make cX3_make 2 none ∈ xG := xmG 309 (by decide +kernel) (by decide +kernel)
theorem xn_X3_make : Cond.initialized yX3_make.cls ∈ xG := xmG 4 (by decide +kernel) (by decide +kernel)
theorem xt_X3_make : Cond.instanceMethod yX3_make ∈ xG ∧ Cond.selects yX3_make.cls yX3_make yX3_make ∈ xG := ⟨xmG 307 (by decide +kernel) (by decide +kernel), xmG 308 (by decide +kernel) (by decide +kernel)⟩
theorem xm_X8_89 : xCW RX8 89 yX3_make cX3_make 2 none 0 := ⟨xo_X3_make, xn_X3_make, xmG 306 (by decide +kernel) (by decide +kernel), by decide +kernel⟩
theorem xo_X4_sort : Cond.code yX4_sort cX4_sort 4 none ∈ xG := xmG 313 (by decide +kernel) (by decide +kernel)
theorem xn_X4_sort : Cond.initialized yX4_sort.cls ∈ xG := xmG 5 (by decide +kernel) (by decide +kernel)
theorem xt_X4_sort : Cond.instanceMethod yX4_sort ∈ xG ∧ Cond.selects yX4_sort.cls yX4_sort yX4_sort ∈ xG := ⟨xmG 311 (by decide +kernel) (by decide +kernel), xmG 312 (by decide +kernel) (by decide +kernel)⟩
theorem xm_X3_41 : xCW RX3 41 yX4_sort cX4_sort 4 none 2 := ⟨xo_X4_sort, xn_X4_sort, xmG 310 (by decide +kernel) (by decide +kernel), by decide +kernel⟩
theorem xm_X4_46 : Cond.methodLink RX4 46 arraycopyName ∈ xG := xmG 314 (by decide +kernel) (by decide +kernel)
theorem xo_X4_makeLevelBelow : Cond.code yX4_makeLevelBelow cX4_makeLevelBelow 5 none ∈ xG := xmG 318 (by decide +kernel) (by decide +kernel)
theorem xn_X4_makeLevelBelow : Cond.initialized yX4_makeLevelBelow.cls ∈ xG := xmG 5 (by decide +kernel) (by decide +kernel)
theorem xt_X4_makeLevelBelow : Cond.instanceMethod yX4_makeLevelBelow ∈ xG ∧ Cond.selects yX4_makeLevelBelow.cls yX4_makeLevelBelow yX4_makeLevelBelow ∈ xG := ⟨xmG 317 (by decide +kernel) (by decide +kernel), xmS 1 (by decide +kernel) (by decide +kernel)⟩
theorem xm_X4_52 : xCW RX4 52 yX4_makeLevelBelow cX4_makeLevelBelow 5 none 1 := ⟨xo_X4_makeLevelBelow, xn_X4_makeLevelBelow, xmG 315 (by decide +kernel) (by decide +kernel), by decide +kernel⟩
theorem xo_X4_markRises : Cond.code yX4_markRises cX4_markRises 5 none ∈ xG := xmG 322 (by decide +kernel) (by decide +kernel)
theorem xn_X4_markRises : Cond.initialized yX4_markRises.cls ∈ xG := xmG 5 (by decide +kernel) (by decide +kernel)
theorem xt_X4_markRises : Cond.instanceMethod yX4_markRises ∈ xG ∧ Cond.selects yX4_markRises.cls yX4_markRises yX4_markRises ∈ xG := ⟨xmG 321 (by decide +kernel) (by decide +kernel), xmS 2 (by decide +kernel) (by decide +kernel)⟩
theorem xm_X4_62 : xCW RX4 62 yX4_markRises cX4_markRises 5 none 1 := ⟨xo_X4_markRises, xn_X4_markRises, xmG 319 (by decide +kernel) (by decide +kernel), by decide +kernel⟩
theorem xo_X4_collectTurns : Cond.code yX4_collectTurns cX4_collectTurns 5 (some .int) ∈ xG := xmG 326 (by decide +kernel) (by decide +kernel)
theorem xn_X4_collectTurns : Cond.initialized yX4_collectTurns.cls ∈ xG := xmG 5 (by decide +kernel) (by decide +kernel)
theorem xt_X4_collectTurns : Cond.instanceMethod yX4_collectTurns ∈ xG ∧ Cond.selects yX4_collectTurns.cls yX4_collectTurns yX4_collectTurns ∈ xG := ⟨xmG 325 (by decide +kernel) (by decide +kernel), xmS 3 (by decide +kernel) (by decide +kernel)⟩
theorem xm_X4_65 : xCW RX4 65 yX4_collectTurns cX4_collectTurns 5 (some .int) 2 := ⟨xo_X4_collectTurns, xn_X4_collectTurns, xmG 323 (by decide +kernel) (by decide +kernel), by decide +kernel⟩
theorem xo_X4_isTurn : Cond.code yX4_isTurn cX4_isTurn 4 (some .boolean) ∈ xG := xmG 330 (by decide +kernel) (by decide +kernel)
theorem xn_X4_isTurn : Cond.initialized yX4_isTurn.cls ∈ xG := xmG 5 (by decide +kernel) (by decide +kernel)
theorem xt_X4_isTurn : Cond.instanceMethod yX4_isTurn ∈ xG ∧ Cond.selects yX4_isTurn.cls yX4_isTurn yX4_isTurn ∈ xG := ⟨xmG 329 (by decide +kernel) (by decide +kernel), xmS 4 (by decide +kernel) (by decide +kernel)⟩
theorem xm_X4_77 : xCW RX4 77 yX4_isTurn cX4_isTurn 4 (some .boolean) 2 := ⟨xo_X4_isTurn, xn_X4_isTurn, xmG 327 (by decide +kernel) (by decide +kernel), by decide +kernel⟩
theorem xo_X4_induce : Cond.code yX4_induce cX4_induce 3 none ∈ xG := xmG 334 (by decide +kernel) (by decide +kernel)
theorem xn_X4_induce : Cond.initialized yX4_induce.cls ∈ xG := xmG 5 (by decide +kernel) (by decide +kernel)
theorem xt_X4_induce : Cond.instanceMethod yX4_induce ∈ xG ∧ Cond.selects yX4_induce.cls yX4_induce yX4_induce ∈ xG := ⟨xmG 333 (by decide +kernel) (by decide +kernel), xmS 5 (by decide +kernel) (by decide +kernel)⟩
theorem xm_X4_69 : xCW RX4 69 yX4_induce cX4_induce 3 none 2 := ⟨xo_X4_induce, xn_X4_induce, xmG 331 (by decide +kernel) (by decide +kernel), by decide +kernel⟩
theorem xo_X4_countLetters : Cond.code yX4_countLetters cX4_countLetters 3 none ∈ xG := xmG 338 (by decide +kernel) (by decide +kernel)
theorem xn_X4_countLetters : Cond.initialized yX4_countLetters.cls ∈ xG := xmG 5 (by decide +kernel) (by decide +kernel)
theorem xt_X4_countLetters : Cond.instanceMethod yX4_countLetters ∈ xG ∧ Cond.selects yX4_countLetters.cls yX4_countLetters yX4_countLetters ∈ xG := ⟨xmG 337 (by decide +kernel) (by decide +kernel), xmS 6 (by decide +kernel) (by decide +kernel)⟩
theorem xm_X4_85 : xCW RX4 85 yX4_countLetters cX4_countLetters 3 none 1 := ⟨xo_X4_countLetters, xn_X4_countLetters, xmG 335 (by decide +kernel) (by decide +kernel), by decide +kernel⟩
theorem xo_J7_fill_fda19 : Cond.code yJ7_fill_fda19 cJ7_fill_fda19 5 none ∈ xG := xmG 341 (by decide +kernel) (by decide +kernel)
theorem xn_J7_fill_fda19 : Cond.initialized yJ7_fill_fda19.cls ∈ xG := xmG 12 (by decide +kernel) (by decide +kernel)
theorem xt_J7_fill_fda19 : Cond.static yJ7_fill_fda19 ∈ xG := xmG 340 (by decide +kernel) (by decide +kernel)
theorem xm_X4_88 : xCW RX4 88 yJ7_fill_fda19 cJ7_fill_fda19 5 none 4 := ⟨xo_J7_fill_fda19, xn_J7_fill_fda19, xmG 339 (by decide +kernel) (by decide +kernel), by decide +kernel⟩
theorem xo_J7_rangeCheck_23922 : Cond.code yJ7_rangeCheck_23922 cJ7_rangeCheck_23922 3 none ∈ xG := xmG 344 (by decide +kernel) (by decide +kernel)
theorem xn_J7_rangeCheck_23922 : Cond.initialized yJ7_rangeCheck_23922.cls ∈ xG := xmG 12 (by decide +kernel) (by decide +kernel)
theorem xt_J7_rangeCheck_23922 : Cond.static yJ7_rangeCheck_23922 ∈ xG := xmG 343 (by decide +kernel) (by decide +kernel)
theorem xm_J7_13 : xCW RJ7 13 yJ7_rangeCheck_23922 cJ7_rangeCheck_23922 3 none 3 := ⟨xo_J7_rangeCheck_23922, xn_J7_rangeCheck_23922, xmG 342 (by decide +kernel) (by decide +kernel), by decide +kernel⟩
theorem xo_X4_putSeeds : Cond.code yX4_putSeeds cX4_putSeeds 4 none ∈ xG := xmG 348 (by decide +kernel) (by decide +kernel)
theorem xn_X4_putSeeds : Cond.initialized yX4_putSeeds.cls ∈ xG := xmG 5 (by decide +kernel) (by decide +kernel)
theorem xt_X4_putSeeds : Cond.instanceMethod yX4_putSeeds ∈ xG ∧ Cond.selects yX4_putSeeds.cls yX4_putSeeds yX4_putSeeds ∈ xG := ⟨xmG 347 (by decide +kernel) (by decide +kernel), xmS 7 (by decide +kernel) (by decide +kernel)⟩
theorem xm_X4_94 : xCW RX4 94 yX4_putSeeds cX4_putSeeds 4 none 2 := ⟨xo_X4_putSeeds, xn_X4_putSeeds, xmG 345 (by decide +kernel) (by decide +kernel), by decide +kernel⟩
theorem xo_X4_putLast : Cond.code yX4_putLast cX4_putLast 5 none ∈ xG := xmG 352 (by decide +kernel) (by decide +kernel)
theorem xn_X4_putLast : Cond.initialized yX4_putLast.cls ∈ xG := xmG 5 (by decide +kernel) (by decide +kernel)
theorem xt_X4_putLast : Cond.instanceMethod yX4_putLast ∈ xG ∧ Cond.selects yX4_putLast.cls yX4_putLast yX4_putLast ∈ xG := ⟨xmG 351 (by decide +kernel) (by decide +kernel), xmS 8 (by decide +kernel) (by decide +kernel)⟩
theorem xm_X4_103 : xCW RX4 103 yX4_putLast cX4_putLast 5 none 2 := ⟨xo_X4_putLast, xn_X4_putLast, xmG 349 (by decide +kernel) (by decide +kernel), by decide +kernel⟩
theorem xo_X4_induceFalling : Cond.code yX4_induceFalling cX4_induceFalling 4 none ∈ xG := xmG 356 (by decide +kernel) (by decide +kernel)
theorem xn_X4_induceFalling : Cond.initialized yX4_induceFalling.cls ∈ xG := xmG 5 (by decide +kernel) (by decide +kernel)
theorem xt_X4_induceFalling : Cond.instanceMethod yX4_induceFalling ∈ xG ∧ Cond.selects yX4_induceFalling.cls yX4_induceFalling yX4_induceFalling ∈ xG := ⟨xmG 355 (by decide +kernel) (by decide +kernel), xmS 9 (by decide +kernel) (by decide +kernel)⟩
theorem xm_X4_97 : xCW RX4 97 yX4_induceFalling cX4_induceFalling 4 none 1 := ⟨xo_X4_induceFalling, xn_X4_induceFalling, xmG 353 (by decide +kernel) (by decide +kernel), by decide +kernel⟩
theorem xo_X4_putFirst : Cond.code yX4_putFirst cX4_putFirst 5 none ∈ xG := xmG 360 (by decide +kernel) (by decide +kernel)
theorem xn_X4_putFirst : Cond.initialized yX4_putFirst.cls ∈ xG := xmG 5 (by decide +kernel) (by decide +kernel)
theorem xt_X4_putFirst : Cond.instanceMethod yX4_putFirst ∈ xG ∧ Cond.selects yX4_putFirst.cls yX4_putFirst yX4_putFirst ∈ xG := ⟨xmG 359 (by decide +kernel) (by decide +kernel), xmS 10 (by decide +kernel) (by decide +kernel)⟩
theorem xm_X4_106 : xCW RX4 106 yX4_putFirst cX4_putFirst 5 none 2 := ⟨xo_X4_putFirst, xn_X4_putFirst, xmG 357 (by decide +kernel) (by decide +kernel), by decide +kernel⟩
theorem xo_X4_induceRising : Cond.code yX4_induceRising cX4_induceRising 4 none ∈ xG := xmG 364 (by decide +kernel) (by decide +kernel)
theorem xn_X4_induceRising : Cond.initialized yX4_induceRising.cls ∈ xG := xmG 5 (by decide +kernel) (by decide +kernel)
theorem xt_X4_induceRising : Cond.instanceMethod yX4_induceRising ∈ xG ∧ Cond.selects yX4_induceRising.cls yX4_induceRising yX4_induceRising ∈ xG := ⟨xmG 363 (by decide +kernel) (by decide +kernel), xmS 11 (by decide +kernel) (by decide +kernel)⟩
theorem xm_X4_100 : xCW RX4 100 yX4_induceRising cX4_induceRising 4 none 1 := ⟨xo_X4_induceRising, xn_X4_induceRising, xmG 361 (by decide +kernel) (by decide +kernel), by decide +kernel⟩
theorem xo_X4_namePieces : Cond.code yX4_namePieces cX4_namePieces 6 (some .int) ∈ xG := xmG 368 (by decide +kernel) (by decide +kernel)
theorem xn_X4_namePieces : Cond.initialized yX4_namePieces.cls ∈ xG := xmG 5 (by decide +kernel) (by decide +kernel)
theorem xt_X4_namePieces : Cond.instanceMethod yX4_namePieces ∈ xG ∧ Cond.selects yX4_namePieces.cls yX4_namePieces yX4_namePieces ∈ xG := ⟨xmG 367 (by decide +kernel) (by decide +kernel), xmS 12 (by decide +kernel) (by decide +kernel)⟩
theorem xm_X4_73 : xCW RX4 73 yX4_namePieces cX4_namePieces 6 (some .int) 1 := ⟨xo_X4_namePieces, xn_X4_namePieces, xmG 365 (by decide +kernel) (by decide +kernel), by decide +kernel⟩
theorem xo_X4_isSamePiece : Cond.code yX4_isSamePiece cX4_isSamePiece 7 (some .boolean) ∈ xG := xmG 372 (by decide +kernel) (by decide +kernel)
theorem xn_X4_isSamePiece : Cond.initialized yX4_isSamePiece.cls ∈ xG := xmG 5 (by decide +kernel) (by decide +kernel)
theorem xt_X4_isSamePiece : Cond.instanceMethod yX4_isSamePiece ∈ xG ∧ Cond.selects yX4_isSamePiece.cls yX4_isSamePiece yX4_isSamePiece ∈ xG := ⟨xmG 371 (by decide +kernel) (by decide +kernel), xmS 13 (by decide +kernel) (by decide +kernel)⟩
theorem xm_X4_81 : xCW RX4 81 yX4_isSamePiece cX4_isSamePiece 7 (some .boolean) 3 := ⟨xo_X4_isSamePiece, xn_X4_isSamePiece, xmG 369 (by decide +kernel) (by decide +kernel), by decide +kernel⟩
theorem xo_X4_orderByNames : Cond.code yX4_orderByNames cX4_orderByNames 3 none ∈ xG := xmG 376 (by decide +kernel) (by decide +kernel)
theorem xn_X4_orderByNames : Cond.initialized yX4_orderByNames.cls ∈ xG := xmG 5 (by decide +kernel) (by decide +kernel)
theorem xt_X4_orderByNames : Cond.instanceMethod yX4_orderByNames ∈ xG ∧ Cond.selects yX4_orderByNames.cls yX4_orderByNames yX4_orderByNames ∈ xG := ⟨xmG 375 (by decide +kernel) (by decide +kernel), xmS 14 (by decide +kernel) (by decide +kernel)⟩
theorem xm_X4_56 : xCW RX4 56 yX4_orderByNames cX4_orderByNames 3 none 1 := ⟨xo_X4_orderByNames, xn_X4_orderByNames, xmG 373 (by decide +kernel) (by decide +kernel), by decide +kernel⟩
theorem xo_X4_orderFromBelow : Cond.code yX4_orderFromBelow cX4_orderFromBelow 4 none ∈ xG := xmG 380 (by decide +kernel) (by decide +kernel)
theorem xn_X4_orderFromBelow : Cond.initialized yX4_orderFromBelow.cls ∈ xG := xmG 5 (by decide +kernel) (by decide +kernel)
theorem xt_X4_orderFromBelow : Cond.instanceMethod yX4_orderFromBelow ∈ xG ∧ Cond.selects yX4_orderFromBelow.cls yX4_orderFromBelow yX4_orderFromBelow ∈ xG := ⟨xmG 379 (by decide +kernel) (by decide +kernel), xmS 15 (by decide +kernel) (by decide +kernel)⟩
theorem xm_X4_59 : xCW RX4 59 yX4_orderFromBelow cX4_orderFromBelow 4 none 1 := ⟨xo_X4_orderFromBelow, xn_X4_orderFromBelow, xmG 377 (by decide +kernel) (by decide +kernel), by decide +kernel⟩
theorem xm_X3_48 : Cond.methodLink RX3 48 arraycopyName ∈ xG := xmG 381 (by decide +kernel) (by decide +kernel)
theorem xo_X3_measureBesides : Cond.code yX3_measureBesides cX3_measureBesides 4 none ∈ xG := xmG 385 (by decide +kernel) (by decide +kernel)
theorem xn_X3_measureBesides : Cond.initialized yX3_measureBesides.cls ∈ xG := xmG 4 (by decide +kernel) (by decide +kernel)
theorem xt_X3_measureBesides : Cond.instanceMethod yX3_measureBesides ∈ xG ∧ Cond.selects yX3_measureBesides.cls yX3_measureBesides yX3_measureBesides ∈ xG := ⟨xmG 384 (by decide +kernel) (by decide +kernel), xmS 16 (by decide +kernel) (by decide +kernel)⟩
theorem xm_X3_54 : xCW RX3 54 yX3_measureBesides cX3_measureBesides 4 none 0 := ⟨xo_X3_measureBesides, xn_X3_measureBesides, xmG 382 (by decide +kernel) (by decide +kernel), by decide +kernel⟩
theorem xo_X7_alikeFrom : Cond.code yX7_alikeFrom cX7_alikeFrom 5 (some .int) ∈ xG := xmG 389 (by decide +kernel) (by decide +kernel)
theorem xn_X7_alikeFrom : Cond.initialized yX7_alikeFrom.cls ∈ xG := xmG 3 (by decide +kernel) (by decide +kernel)
theorem xt_X7_alikeFrom : Cond.instanceMethod yX7_alikeFrom ∈ xG ∧ Cond.selects yX7_alikeFrom.cls yX7_alikeFrom yX7_alikeFrom ∈ xG := ⟨xmG 387 (by decide +kernel) (by decide +kernel), xmG 388 (by decide +kernel) (by decide +kernel)⟩
theorem xm_X3_57 : xCW RX3 57 yX7_alikeFrom cX7_alikeFrom 5 (some .int) 3 := ⟨xo_X7_alikeFrom, xn_X7_alikeFrom, xmG 386 (by decide +kernel) (by decide +kernel), by decide +kernel⟩
theorem xo_X0_make : Cond.code yX0_make cX0_make 2 none ∈ xG := xmG 393 (by decide +kernel) (by decide +kernel)
theorem xn_X0_make : Cond.initialized yX0_make.cls ∈ xG := xmG 6 (by decide +kernel) (by decide +kernel)
theorem xt_X0_make : Cond.instanceMethod yX0_make ∈ xG ∧ Cond.selects yX0_make.cls yX0_make yX0_make ∈ xG := ⟨xmG 391 (by decide +kernel) (by decide +kernel), xmG 392 (by decide +kernel) (by decide +kernel)⟩
theorem xm_X8_92 : xCW RX8 92 yX0_make cX0_make 2 none 0 := ⟨xo_X0_make, xn_X0_make, xmG 390 (by decide +kernel) (by decide +kernel), by decide +kernel⟩
theorem xo_X0_chainAll : Cond.code yX0_chainAll cX0_chainAll 2 none ∈ xG := xmG 397 (by decide +kernel) (by decide +kernel)
theorem xn_X0_chainAll : Cond.initialized yX0_chainAll.cls ∈ xG := xmG 6 (by decide +kernel) (by decide +kernel)
theorem xt_X0_chainAll : Cond.instanceMethod yX0_chainAll ∈ xG ∧ Cond.selects yX0_chainAll.cls yX0_chainAll yX0_chainAll ∈ xG := ⟨xmG 396 (by decide +kernel) (by decide +kernel), xmS 17 (by decide +kernel) (by decide +kernel)⟩
theorem xm_X0_38 : xCW RX0 38 yX0_chainAll cX0_chainAll 2 none 0 := ⟨xo_X0_chainAll, xn_X0_chainAll, xmG 394 (by decide +kernel) (by decide +kernel), by decide +kernel⟩
theorem xo_X0_takeLongest : Cond.code yX0_takeLongest cX0_takeLongest 5 none ∈ xG := xmG 401 (by decide +kernel) (by decide +kernel)
theorem xn_X0_takeLongest : Cond.initialized yX0_takeLongest.cls ∈ xG := xmG 6 (by decide +kernel) (by decide +kernel)
theorem xt_X0_takeLongest : Cond.instanceMethod yX0_takeLongest ∈ xG ∧ Cond.selects yX0_takeLongest.cls yX0_takeLongest yX0_takeLongest ∈ xG := ⟨xmG 400 (by decide +kernel) (by decide +kernel), xmS 18 (by decide +kernel) (by decide +kernel)⟩
theorem xm_X0_47 : xCW RX0 47 yX0_takeLongest cX0_takeLongest 5 none 1 := ⟨xo_X0_takeLongest, xn_X0_takeLongest, xmG 398 (by decide +kernel) (by decide +kernel), by decide +kernel⟩
theorem xo_J9_max_7cf53 : Cond.code yJ9_max_7cf53 cJ9_max_7cf53 2 (some .int) ∈ xG := xmG 404 (by decide +kernel) (by decide +kernel)
theorem xn_J9_max_7cf53 : Cond.initialized yJ9_max_7cf53.cls ∈ xG := xmG 13 (by decide +kernel) (by decide +kernel)
theorem xt_J9_max_7cf53 : Cond.static yJ9_max_7cf53 ∈ xG := xmG 403 (by decide +kernel) (by decide +kernel)
theorem xm_X0_69 : xCW RX0 69 yJ9_max_7cf53 cJ9_max_7cf53 2 (some .int) 2 := ⟨xo_J9_max_7cf53, xn_J9_max_7cf53, xmG 402 (by decide +kernel) (by decide +kernel), by decide +kernel⟩
theorem xo_X0_unchain : Cond.code yX0_unchain cX0_unchain 2 none ∈ xG := xmG 408 (by decide +kernel) (by decide +kernel)
theorem xn_X0_unchain : Cond.initialized yX0_unchain.cls ∈ xG := xmG 6 (by decide +kernel) (by decide +kernel)
theorem xt_X0_unchain : Cond.instanceMethod yX0_unchain ∈ xG ∧ Cond.selects yX0_unchain.cls yX0_unchain yX0_unchain ∈ xG := ⟨xmG 407 (by decide +kernel) (by decide +kernel), xmS 19 (by decide +kernel) (by decide +kernel)⟩
theorem xm_X0_56 : xCW RX0 56 yX0_unchain cX0_unchain 2 none 1 := ⟨xo_X0_unchain, xn_X0_unchain, xmG 405 (by decide +kernel) (by decide +kernel), by decide +kernel⟩
theorem xo_J9_min_7cf53 : Cond.code yJ9_min_7cf53 cJ9_min_7cf53 2 (some .int) ∈ xG := xmG 411 (by decide +kernel) (by decide +kernel)
theorem xn_J9_min_7cf53 : Cond.initialized yJ9_min_7cf53.cls ∈ xG := xmG 13 (by decide +kernel) (by decide +kernel)
theorem xt_J9_min_7cf53 : Cond.static yJ9_min_7cf53 ∈ xG := xmG 410 (by decide +kernel) (by decide +kernel)
theorem xm_X0_76 : xCW RX0 76 yJ9_min_7cf53 cJ9_min_7cf53 2 (some .int) 2 := ⟨xo_J9_min_7cf53, xn_J9_min_7cf53, xmG 409 (by decide +kernel) (by decide +kernel), by decide +kernel⟩
theorem xo_X0_leastLike : Cond.code yX0_leastLike cX0_leastLike 4 (some .int) ∈ xG := xmG 415 (by decide +kernel) (by decide +kernel)
theorem xn_X0_leastLike : Cond.initialized yX0_leastLike.cls ∈ xG := xmG 6 (by decide +kernel) (by decide +kernel)
theorem xt_X0_leastLike : Cond.instanceMethod yX0_leastLike ∈ xG ∧ Cond.selects yX0_leastLike.cls yX0_leastLike yX0_leastLike ∈ xG := ⟨xmG 414 (by decide +kernel) (by decide +kernel), xmS 20 (by decide +kernel) (by decide +kernel)⟩
theorem xm_X0_59 : xCW RX0 59 yX0_leastLike cX0_leastLike 4 (some .int) 1 := ⟨xo_X0_leastLike, xn_X0_leastLike, xmG 412 (by decide +kernel) (by decide +kernel), by decide +kernel⟩
theorem xo_X0_countPieces : Cond.code yX0_countPieces cX0_countPieces 3 none ∈ xG := xmG 419 (by decide +kernel) (by decide +kernel)
theorem xn_X0_countPieces : Cond.initialized yX0_countPieces.cls ∈ xG := xmG 6 (by decide +kernel) (by decide +kernel)
theorem xt_X0_countPieces : Cond.instanceMethod yX0_countPieces ∈ xG ∧ Cond.selects yX0_countPieces.cls yX0_countPieces yX0_countPieces ∈ xG := ⟨xmG 418 (by decide +kernel) (by decide +kernel), xmS 21 (by decide +kernel) (by decide +kernel)⟩
theorem xm_X0_63 : xCW RX0 63 yX0_countPieces cX0_countPieces 3 none 0 := ⟨xo_X0_countPieces, xn_X0_countPieces, xmG 416 (by decide +kernel) (by decide +kernel), by decide +kernel⟩
theorem xo_X7_isEnd : Cond.code yX7_isEnd cX7_isEnd 2 (some .boolean) ∈ xG := xmG 423 (by decide +kernel) (by decide +kernel)
theorem xn_X7_isEnd : Cond.initialized yX7_isEnd.cls ∈ xG := xmG 3 (by decide +kernel) (by decide +kernel)
theorem xt_X7_isEnd : Cond.instanceMethod yX7_isEnd ∈ xG ∧ Cond.selects yX7_isEnd.cls yX7_isEnd yX7_isEnd ∈ xG := ⟨xmG 421 (by decide +kernel) (by decide +kernel), xmG 422 (by decide +kernel) (by decide +kernel)⟩
theorem xm_X0_79 : xCW RX0 79 yX7_isEnd cX7_isEnd 2 (some .boolean) 1 := ⟨xo_X7_isEnd, xn_X7_isEnd, xmG 420 (by decide +kernel) (by decide +kernel), by decide +kernel⟩
theorem xo_X1_reset : Cond.code yX1_reset cX1_reset 1 none ∈ xG := xmG 427 (by decide +kernel) (by decide +kernel)
theorem xn_X1_reset : Cond.initialized yX1_reset.cls ∈ xG := xmG 9 (by decide +kernel) (by decide +kernel)
theorem xt_X1_reset : Cond.instanceMethod yX1_reset ∈ xG ∧ Cond.selects yX1_reset.cls yX1_reset yX1_reset ∈ xG := ⟨xmG 425 (by decide +kernel) (by decide +kernel), xmG 426 (by decide +kernel) (by decide +kernel)⟩
theorem xm_X8_93 : xCW RX8 93 yX1_reset cX1_reset 1 none 0 := ⟨xo_X1_reset, xn_X1_reset, xmG 424 (by decide +kernel) (by decide +kernel), by decide +kernel⟩
theorem xm_X1_34 : Cond.methodLink RX1 34 arraycopyName ∈ xG := xmG 428 (by decide +kernel) (by decide +kernel)
theorem xo_X8_sign : Cond.code yX8_sign cX8_sign 2 (some .int) ∈ xG := xmG 432 (by decide +kernel) (by decide +kernel)
theorem xn_X8_sign : Cond.initialized yX8_sign.cls ∈ xG := xmG 1 (by decide +kernel) (by decide +kernel)
theorem xt_X8_sign : Cond.instanceMethod yX8_sign ∈ xG ∧ Cond.selects yX8_sign.cls yX8_sign yX8_sign ∈ xG := ⟨xmG 430 (by decide +kernel) (by decide +kernel), xmG 431 (by decide +kernel) (by decide +kernel)⟩
theorem xm_L_28 : xCW RL 28 yX8_sign cX8_sign 2 (some .int) 1 := ⟨xo_X8_sign, xn_X8_sign, xmG 429 (by decide +kernel) (by decide +kernel), by decide +kernel⟩
theorem xo_X7_has : Cond.code yX7_has cX7_has 2 (some .boolean) ∈ xG := xmG 436 (by decide +kernel) (by decide +kernel)
theorem xn_X7_has : Cond.initialized yX7_has.cls ∈ xG := xmG 3 (by decide +kernel) (by decide +kernel)
theorem xt_X7_has : Cond.instanceMethod yX7_has ∈ xG ∧ Cond.selects yX7_has.cls yX7_has yX7_has ∈ xG := ⟨xmG 434 (by decide +kernel) (by decide +kernel), xmG 435 (by decide +kernel) (by decide +kernel)⟩
theorem xm_X8_99 : xCW RX8 99 yX7_has cX7_has 2 (some .boolean) 1 := ⟨xo_X7_has, xn_X7_has, xmG 433 (by decide +kernel) (by decide +kernel), by decide +kernel⟩
theorem xo_X7_shown : Cond.code yX7_shown cX7_shown 2 (some .int) ∈ xG := xmG 440 (by decide +kernel) (by decide +kernel)
theorem xn_X7_shown : Cond.initialized yX7_shown.cls ∈ xG := xmG 3 (by decide +kernel) (by decide +kernel)
theorem xt_X7_shown : Cond.instanceMethod yX7_shown ∈ xG ∧ Cond.selects yX7_shown.cls yX7_shown yX7_shown ∈ xG := ⟨xmG 438 (by decide +kernel) (by decide +kernel), xmG 439 (by decide +kernel) (by decide +kernel)⟩
theorem xm_X8_102 : xCW RX8 102 yX7_shown cX7_shown 2 (some .int) 1 := ⟨xo_X7_shown, xn_X7_shown, xmG 437 (by decide +kernel) (by decide +kernel), by decide +kernel⟩
theorem xm_X7_40 : xCW RX7 40 yX7_isEnd cX7_isEnd 2 (some .boolean) 1 := ⟨xo_X7_isEnd, xn_X7_isEnd, xmG 441 (by decide +kernel) (by decide +kernel), by decide +kernel⟩
theorem xo_X8_text : Cond.code yX8_text cX8_text 4 (some .int) ∈ xG := xmG 445 (by decide +kernel) (by decide +kernel)
theorem xn_X8_text : Cond.initialized yX8_text.cls ∈ xG := xmG 1 (by decide +kernel) (by decide +kernel)
theorem xt_X8_text : Cond.instanceMethod yX8_text ∈ xG ∧ Cond.selects yX8_text.cls yX8_text yX8_text ∈ xG := ⟨xmG 443 (by decide +kernel) (by decide +kernel), xmG 444 (by decide +kernel) (by decide +kernel)⟩
theorem xm_L_33 : xCW RL 33 yX8_text cX8_text 4 (some .int) 2 := ⟨xo_X8_text, xn_X8_text, xmG 442 (by decide +kernel) (by decide +kernel), by decide +kernel⟩
theorem xo_X8_at : Cond.code yX8_at cX8_at 2 (some .int) ∈ xG := xmG 449 (by decide +kernel) (by decide +kernel)
theorem xn_X8_at : Cond.initialized yX8_at.cls ∈ xG := xmG 1 (by decide +kernel) (by decide +kernel)
theorem xt_X8_at : Cond.instanceMethod yX8_at ∈ xG ∧ Cond.selects yX8_at.cls yX8_at yX8_at ∈ xG := ⟨xmG 447 (by decide +kernel) (by decide +kernel), xmG 448 (by decide +kernel) (by decide +kernel)⟩
theorem xm_L_37 : xCW RL 37 yX8_at cX8_at 2 (some .int) 1 := ⟨xo_X8_at, xn_X8_at, xmG 446 (by decide +kernel) (by decide +kernel), by decide +kernel⟩
theorem xo_X8_rank : Cond.code yX8_rank cX8_rank 2 (some .int) ∈ xG := xmG 453 (by decide +kernel) (by decide +kernel)
theorem xn_X8_rank : Cond.initialized yX8_rank.cls ∈ xG := xmG 1 (by decide +kernel) (by decide +kernel)
theorem xt_X8_rank : Cond.instanceMethod yX8_rank ∈ xG ∧ Cond.selects yX8_rank.cls yX8_rank yX8_rank ∈ xG := ⟨xmG 451 (by decide +kernel) (by decide +kernel), xmG 452 (by decide +kernel) (by decide +kernel)⟩
theorem xm_L_41 : xCW RL 41 yX8_rank cX8_rank 2 (some .int) 1 := ⟨xo_X8_rank, xn_X8_rank, xmG 450 (by decide +kernel) (by decide +kernel), by decide +kernel⟩
theorem xo_X8_beside : Cond.code yX8_beside cX8_beside 2 (some .int) ∈ xG := xmG 457 (by decide +kernel) (by decide +kernel)
theorem xn_X8_beside : Cond.initialized yX8_beside.cls ∈ xG := xmG 1 (by decide +kernel) (by decide +kernel)
theorem xt_X8_beside : Cond.instanceMethod yX8_beside ∈ xG ∧ Cond.selects yX8_beside.cls yX8_beside yX8_beside ∈ xG := ⟨xmG 455 (by decide +kernel) (by decide +kernel), xmG 456 (by decide +kernel) (by decide +kernel)⟩
theorem xm_L_45 : xCW RL 45 yX8_beside cX8_beside 2 (some .int) 1 := ⟨xo_X8_beside, xn_X8_beside, xmG 454 (by decide +kernel) (by decide +kernel), by decide +kernel⟩
theorem xo_X8_common : Cond.code yX8_common cX8_common 3 (some .int) ∈ xG := xmG 461 (by decide +kernel) (by decide +kernel)
theorem xn_X8_common : Cond.initialized yX8_common.cls ∈ xG := xmG 1 (by decide +kernel) (by decide +kernel)
theorem xt_X8_common : Cond.instanceMethod yX8_common ∈ xG ∧ Cond.selects yX8_common.cls yX8_common yX8_common ∈ xG := ⟨xmG 459 (by decide +kernel) (by decide +kernel), xmG 460 (by decide +kernel) (by decide +kernel)⟩
theorem xm_L_49 : xCW RL 49 yX8_common cX8_common 3 (some .int) 2 := ⟨xo_X8_common, xn_X8_common, xmG 458 (by decide +kernel) (by decide +kernel), by decide +kernel⟩
theorem xo_X7_signsFrom : Cond.code yX7_signsFrom cX7_signsFrom 2 (some .int) ∈ xG := xmG 465 (by decide +kernel) (by decide +kernel)
theorem xn_X7_signsFrom : Cond.initialized yX7_signsFrom.cls ∈ xG := xmG 3 (by decide +kernel) (by decide +kernel)
theorem xt_X7_signsFrom : Cond.instanceMethod yX7_signsFrom ∈ xG ∧ Cond.selects yX7_signsFrom.cls yX7_signsFrom yX7_signsFrom ∈ xG := ⟨xmG 463 (by decide +kernel) (by decide +kernel), xmG 464 (by decide +kernel) (by decide +kernel)⟩
theorem xm_X8_121 : xCW RX8 121 yX7_signsFrom cX7_signsFrom 2 (some .int) 1 := ⟨xo_X7_signsFrom, xn_X7_signsFrom, xmG 462 (by decide +kernel) (by decide +kernel), by decide +kernel⟩
theorem xm_X8_124 : xCW RX8 124 yX7_alikeFrom cX7_alikeFrom 5 (some .int) 3 := ⟨xo_X7_alikeFrom, xn_X7_alikeFrom, xmG 466 (by decide +kernel) (by decide +kernel), by decide +kernel⟩
theorem xo_X8_copy : Cond.code yX8_copy cX8_copy 3 (some .int) ∈ xG := xmG 470 (by decide +kernel) (by decide +kernel)
theorem xn_X8_copy : Cond.initialized yX8_copy.cls ∈ xG := xmG 1 (by decide +kernel) (by decide +kernel)
theorem xt_X8_copy : Cond.instanceMethod yX8_copy ∈ xG ∧ Cond.selects yX8_copy.cls yX8_copy yX8_copy ∈ xG := ⟨xmG 468 (by decide +kernel) (by decide +kernel), xmG 469 (by decide +kernel) (by decide +kernel)⟩
theorem xm_L_53 : xCW RL 53 yX8_copy cX8_copy 3 (some .int) 2 := ⟨xo_X8_copy, xn_X8_copy, xmG 467 (by decide +kernel) (by decide +kernel), by decide +kernel⟩
theorem xo_X8_pattern : Cond.code yX8_pattern cX8_pattern 6 (some .int) ∈ xG := xmG 474 (by decide +kernel) (by decide +kernel)
theorem xn_X8_pattern : Cond.initialized yX8_pattern.cls ∈ xG := xmG 1 (by decide +kernel) (by decide +kernel)
theorem xt_X8_pattern : Cond.instanceMethod yX8_pattern ∈ xG ∧ Cond.selects yX8_pattern.cls yX8_pattern yX8_pattern ∈ xG := ⟨xmG 472 (by decide +kernel) (by decide +kernel), xmG 473 (by decide +kernel) (by decide +kernel)⟩
theorem xm_L_57 : xCW RL 57 yX8_pattern cX8_pattern 6 (some .int) 4 := ⟨xo_X8_pattern, xn_X8_pattern, xmG 471 (by decide +kernel) (by decide +kernel), by decide +kernel⟩
theorem xo_X2_append : Cond.code yX2_append cX2_append 2 none ∈ xG := xmG 478 (by decide +kernel) (by decide +kernel)
theorem xn_X2_append : Cond.initialized yX2_append.cls ∈ xG := xmG 7 (by decide +kernel) (by decide +kernel)
theorem xt_X2_append : Cond.instanceMethod yX2_append ∈ xG ∧ Cond.selects yX2_append.cls yX2_append yX2_append ∈ xG := ⟨xmG 476 (by decide +kernel) (by decide +kernel), xmG 477 (by decide +kernel) (by decide +kernel)⟩
theorem xm_X8_138 : xCW RX8 138 yX2_append cX2_append 2 none 1 := ⟨xo_X2_append, xn_X2_append, xmG 475 (by decide +kernel) (by decide +kernel), by decide +kernel⟩
theorem xo_X8_wipe : Cond.code yX8_wipe cX8_wipe 2 (some .int) ∈ xG := xmG 482 (by decide +kernel) (by decide +kernel)
theorem xn_X8_wipe : Cond.initialized yX8_wipe.cls ∈ xG := xmG 1 (by decide +kernel) (by decide +kernel)
theorem xt_X8_wipe : Cond.instanceMethod yX8_wipe ∈ xG ∧ Cond.selects yX8_wipe.cls yX8_wipe yX8_wipe ∈ xG := ⟨xmG 480 (by decide +kernel) (by decide +kernel), xmG 481 (by decide +kernel) (by decide +kernel)⟩
theorem xm_L_62 : xCW RL 62 yX8_wipe cX8_wipe 2 (some .int) 0 := ⟨xo_X8_wipe, xn_X8_wipe, xmG 479 (by decide +kernel) (by decide +kernel), by decide +kernel⟩
theorem xo_X8_find : Cond.code yX8_find cX8_find 4 (some .int) ∈ xG := xmG 486 (by decide +kernel) (by decide +kernel)
theorem xn_X8_find : Cond.initialized yX8_find.cls ∈ xG := xmG 1 (by decide +kernel) (by decide +kernel)
theorem xt_X8_find : Cond.instanceMethod yX8_find ∈ xG ∧ Cond.selects yX8_find.cls yX8_find yX8_find ∈ xG := ⟨xmG 484 (by decide +kernel) (by decide +kernel), xmG 485 (by decide +kernel) (by decide +kernel)⟩
theorem xm_L_66 : xCW RL 66 yX8_find cX8_find 4 (some .int) 1 := ⟨xo_X8_find, xn_X8_find, xmG 483 (by decide +kernel) (by decide +kernel), by decide +kernel⟩
theorem xo_X2_firstReaching : Cond.code yX2_firstReaching cX2_firstReaching 5 (some .int) ∈ xG := xmG 490 (by decide +kernel) (by decide +kernel)
theorem xn_X2_firstReaching : Cond.initialized yX2_firstReaching.cls ∈ xG := xmG 7 (by decide +kernel) (by decide +kernel)
theorem xt_X2_firstReaching : Cond.instanceMethod yX2_firstReaching ∈ xG ∧ Cond.selects yX2_firstReaching.cls yX2_firstReaching yX2_firstReaching ∈ xG := ⟨xmG 488 (by decide +kernel) (by decide +kernel), xmG 489 (by decide +kernel) (by decide +kernel)⟩
theorem xm_X8_141 : xCW RX8 141 yX2_firstReaching cX2_firstReaching 5 (some .int) 1 := ⟨xo_X2_firstReaching, xn_X2_firstReaching, xmG 487 (by decide +kernel) (by decide +kernel), by decide +kernel⟩
theorem xo_X2_sideOf : Cond.code yX2_sideOf cX2_sideOf 3 (some .int) ∈ xG := xmG 494 (by decide +kernel) (by decide +kernel)
theorem xn_X2_sideOf : Cond.initialized yX2_sideOf.cls ∈ xG := xmG 7 (by decide +kernel) (by decide +kernel)
theorem xt_X2_sideOf : Cond.instanceMethod yX2_sideOf ∈ xG ∧ Cond.selects yX2_sideOf.cls yX2_sideOf yX2_sideOf ∈ xG := ⟨xmG 493 (by decide +kernel) (by decide +kernel), xmS 22 (by decide +kernel) (by decide +kernel)⟩
theorem xm_X2_37 : xCW RX2 37 yX2_sideOf cX2_sideOf 3 (some .int) 1 := ⟨xo_X2_sideOf, xn_X2_sideOf, xmG 491 (by decide +kernel) (by decide +kernel), by decide +kernel⟩
theorem xo_X2_alikeAt : Cond.code yX2_alikeAt cX2_alikeAt 3 (some .int) ∈ xG := xmG 498 (by decide +kernel) (by decide +kernel)
theorem xn_X2_alikeAt : Cond.initialized yX2_alikeAt.cls ∈ xG := xmG 7 (by decide +kernel) (by decide +kernel)
theorem xt_X2_alikeAt : Cond.instanceMethod yX2_alikeAt ∈ xG ∧ Cond.selects yX2_alikeAt.cls yX2_alikeAt yX2_alikeAt ∈ xG := ⟨xmG 497 (by decide +kernel) (by decide +kernel), xmS 23 (by decide +kernel) (by decide +kernel)⟩
theorem xm_X2_41 : xCW RX2 41 yX2_alikeAt cX2_alikeAt 3 (some .int) 1 := ⟨xo_X2_alikeAt, xn_X2_alikeAt, xmG 495 (by decide +kernel) (by decide +kernel), by decide +kernel⟩
theorem xo_X3_countTexts : Cond.code yX3_countTexts cX3_countTexts 5 (some .int) ∈ xG := xmG 502 (by decide +kernel) (by decide +kernel)
theorem xn_X3_countTexts : Cond.initialized yX3_countTexts.cls ∈ xG := xmG 4 (by decide +kernel) (by decide +kernel)
theorem xt_X3_countTexts : Cond.instanceMethod yX3_countTexts ∈ xG ∧ Cond.selects yX3_countTexts.cls yX3_countTexts yX3_countTexts ∈ xG := ⟨xmG 500 (by decide +kernel) (by decide +kernel), xmG 501 (by decide +kernel) (by decide +kernel)⟩
theorem xm_X8_144 : xCW RX8 144 yX3_countTexts cX3_countTexts 5 (some .int) 2 := ⟨xo_X3_countTexts, xn_X3_countTexts, xmG 499 (by decide +kernel) (by decide +kernel), by decide +kernel⟩
theorem xo_J6_bitCount_0f7a4 : Cond.code yJ6_bitCount_0f7a4 cJ6_bitCount_0f7a4 1 (some .int) ∈ xG := xmG 505 (by decide +kernel) (by decide +kernel)
theorem xn_J6_bitCount_0f7a4 : Cond.initialized yJ6_bitCount_0f7a4.cls ∈ xG := xmG 14 (by decide +kernel) (by decide +kernel)
theorem xt_J6_bitCount_0f7a4 : Cond.static yJ6_bitCount_0f7a4 ∈ xG := xmG 504 (by decide +kernel) (by decide +kernel)
theorem xm_X3_64 : xCW RX3 64 yJ6_bitCount_0f7a4 cJ6_bitCount_0f7a4 1 (some .int) 1 := ⟨xo_J6_bitCount_0f7a4, xn_J6_bitCount_0f7a4, xmG 503 (by decide +kernel) (by decide +kernel), by decide +kernel⟩
theorem xo_X3_leastPlace : Cond.code yX3_leastPlace cX3_leastPlace 5 (some .int) ∈ xG := xmG 512 (by decide +kernel) (by decide +kernel)
theorem xn_X3_leastPlace : Cond.initialized yX3_leastPlace.cls ∈ xG := xmG 4 (by decide +kernel) (by decide +kernel)
theorem xt_X3_leastPlace : Cond.instanceMethod yX3_leastPlace ∈ xG ∧ Cond.selects yX3_leastPlace.cls yX3_leastPlace yX3_leastPlace ∈ xG := ⟨xmG 510 (by decide +kernel) (by decide +kernel), xmG 511 (by decide +kernel) (by decide +kernel)⟩
theorem xm_X8_148 : xCW RX8 148 yX3_leastPlace cX3_leastPlace 5 (some .int) 2 := ⟨xo_X3_leastPlace, xn_X3_leastPlace, xmG 509 (by decide +kernel) (by decide +kernel), by decide +kernel⟩
theorem xo_X3_greatestPlace : Cond.code yX3_greatestPlace cX3_greatestPlace 5 (some .int) ∈ xG := xmG 516 (by decide +kernel) (by decide +kernel)
theorem xn_X3_greatestPlace : Cond.initialized yX3_greatestPlace.cls ∈ xG := xmG 4 (by decide +kernel) (by decide +kernel)
theorem xt_X3_greatestPlace : Cond.instanceMethod yX3_greatestPlace ∈ xG ∧ Cond.selects yX3_greatestPlace.cls yX3_greatestPlace yX3_greatestPlace ∈ xG := ⟨xmG 514 (by decide +kernel) (by decide +kernel), xmG 515 (by decide +kernel) (by decide +kernel)⟩
theorem xm_X8_151 : xCW RX8 151 yX3_greatestPlace cX3_greatestPlace 5 (some .int) 2 := ⟨xo_X3_greatestPlace, xn_X3_greatestPlace, xmG 513 (by decide +kernel) (by decide +kernel), by decide +kernel⟩
theorem xm_X3_70 : xCW RX3 70 yJ9_max_7cf53 cJ9_max_7cf53 2 (some .int) 2 := ⟨xo_J9_max_7cf53, xn_J9_max_7cf53, xmG 517 (by decide +kernel) (by decide +kernel), by decide +kernel⟩
theorem xo_X2_longestBeginning : Cond.code yX2_longestBeginning cX2_longestBeginning 3 (some .int) ∈ xG := xmG 521 (by decide +kernel) (by decide +kernel)
theorem xn_X2_longestBeginning : Cond.initialized yX2_longestBeginning.cls ∈ xG := xmG 7 (by decide +kernel) (by decide +kernel)
theorem xt_X2_longestBeginning : Cond.instanceMethod yX2_longestBeginning ∈ xG ∧ Cond.selects yX2_longestBeginning.cls yX2_longestBeginning yX2_longestBeginning ∈ xG := ⟨xmG 519 (by decide +kernel) (by decide +kernel), xmG 520 (by decide +kernel) (by decide +kernel)⟩
theorem xm_X8_154 : xCW RX8 154 yX2_longestBeginning cX2_longestBeginning 3 (some .int) 1 := ⟨xo_X2_longestBeginning, xn_X2_longestBeginning, xmG 518 (by decide +kernel) (by decide +kernel), by decide +kernel⟩
theorem xm_X2_45 : xCW RX2 45 yJ9_max_7cf53 cJ9_max_7cf53 2 (some .int) 2 := ⟨xo_J9_max_7cf53, xn_J9_max_7cf53, xmG 522 (by decide +kernel) (by decide +kernel), by decide +kernel⟩
theorem xo_X8_where : Cond.code yX8_where cX8_where 2 (some .int) ∈ xG := xmG 526 (by decide +kernel) (by decide +kernel)
theorem xn_X8_where : Cond.initialized yX8_where.cls ∈ xG := xmG 1 (by decide +kernel) (by decide +kernel)
theorem xt_X8_where : Cond.instanceMethod yX8_where ∈ xG ∧ Cond.selects yX8_where.cls yX8_where yX8_where ∈ xG := ⟨xmG 524 (by decide +kernel) (by decide +kernel), xmG 525 (by decide +kernel) (by decide +kernel)⟩
theorem xm_L_70 : xCW RL 70 yX8_where cX8_where 2 (some .int) 1 := ⟨xo_X8_where, xn_X8_where, xmG 523 (by decide +kernel) (by decide +kernel), by decide +kernel⟩
theorem xo_X2_placeOf : Cond.code yX2_placeOf cX2_placeOf 6 (some .int) ∈ xG := xmG 530 (by decide +kernel) (by decide +kernel)
theorem xn_X2_placeOf : Cond.initialized yX2_placeOf.cls ∈ xG := xmG 7 (by decide +kernel) (by decide +kernel)
theorem xt_X2_placeOf : Cond.instanceMethod yX2_placeOf ∈ xG ∧ Cond.selects yX2_placeOf.cls yX2_placeOf yX2_placeOf ∈ xG := ⟨xmG 528 (by decide +kernel) (by decide +kernel), xmG 529 (by decide +kernel) (by decide +kernel)⟩
theorem xm_X8_157 : xCW RX8 157 yX2_placeOf cX2_placeOf 6 (some .int) 1 := ⟨xo_X2_placeOf, xn_X2_placeOf, xmG 527 (by decide +kernel) (by decide +kernel), by decide +kernel⟩
theorem xm_X2_51 : xCW RX2 51 yX2_firstReaching cX2_firstReaching 5 (some .int) 1 := ⟨xo_X2_firstReaching, xn_X2_firstReaching, xmG 531 (by decide +kernel) (by decide +kernel), by decide +kernel⟩
theorem xo_X8_different : Cond.code yX8_different cX8_different 1 (some .long) ∈ xG := xmG 535 (by decide +kernel) (by decide +kernel)
theorem xn_X8_different : Cond.initialized yX8_different.cls ∈ xG := xmG 1 (by decide +kernel) (by decide +kernel)
theorem xt_X8_different : Cond.instanceMethod yX8_different ∈ xG ∧ Cond.selects yX8_different.cls yX8_different yX8_different ∈ xG := ⟨xmG 533 (by decide +kernel) (by decide +kernel), xmG 534 (by decide +kernel) (by decide +kernel)⟩
theorem xm_L_74 : xCW RL 74 yX8_different cX8_different 1 (some .long) 0 := ⟨xo_X8_different, xn_X8_different, xmG 532 (by decide +kernel) (by decide +kernel), by decide +kernel⟩
theorem xo_X5_countAll : Cond.code yX5_countAll cX5_countAll 4 (some .long) ∈ xG := xmG 539 (by decide +kernel) (by decide +kernel)
theorem xn_X5_countAll : Cond.initialized yX5_countAll.cls ∈ xG := xmG 8 (by decide +kernel) (by decide +kernel)
theorem xt_X5_countAll : Cond.instanceMethod yX5_countAll ∈ xG ∧ Cond.selects yX5_countAll.cls yX5_countAll yX5_countAll ∈ xG := ⟨xmG 537 (by decide +kernel) (by decide +kernel), xmG 538 (by decide +kernel) (by decide +kernel)⟩
theorem xm_X8_160 : xCW RX8 160 yX5_countAll cX5_countAll 4 (some .long) 0 := ⟨xo_X5_countAll, xn_X5_countAll, xmG 536 (by decide +kernel) (by decide +kernel), by decide +kernel⟩
theorem xm_X5_31 : xCW RX5 31 yX7_signsFrom cX7_signsFrom 2 (some .int) 1 := ⟨xo_X7_signsFrom, xn_X7_signsFrom, xmG 540 (by decide +kernel) (by decide +kernel), by decide +kernel⟩
theorem xo_X8_repeats : Cond.code yX8_repeats cX8_repeats 3 (some .int) ∈ xG := xmG 544 (by decide +kernel) (by decide +kernel)
theorem xn_X8_repeats : Cond.initialized yX8_repeats.cls ∈ xG := xmG 1 (by decide +kernel) (by decide +kernel)
theorem xt_X8_repeats : Cond.instanceMethod yX8_repeats ∈ xG ∧ Cond.selects yX8_repeats.cls yX8_repeats yX8_repeats ∈ xG := ⟨xmG 542 (by decide +kernel) (by decide +kernel), xmG 543 (by decide +kernel) (by decide +kernel)⟩
theorem xm_L_79 : xCW RL 79 yX8_repeats cX8_repeats 3 (some .int) 2 := ⟨xo_X8_repeats, xn_X8_repeats, xmG 541 (by decide +kernel) (by decide +kernel), by decide +kernel⟩
theorem xo_X5_countStanding : Cond.code yX5_countStanding cX5_countStanding 6 (some .int) ∈ xG := xmG 548 (by decide +kernel) (by decide +kernel)
theorem xn_X5_countStanding : Cond.initialized yX5_countStanding.cls ∈ xG := xmG 8 (by decide +kernel) (by decide +kernel)
theorem xt_X5_countStanding : Cond.instanceMethod yX5_countStanding ∈ xG ∧ Cond.selects yX5_countStanding.cls yX5_countStanding yX5_countStanding ∈ xG := ⟨xmG 546 (by decide +kernel) (by decide +kernel), xmG 547 (by decide +kernel) (by decide +kernel)⟩
theorem xm_X8_164 : xCW RX8 164 yX5_countStanding cX5_countStanding 6 (some .int) 2 := ⟨xo_X5_countStanding, xn_X5_countStanding, xmG 545 (by decide +kernel) (by decide +kernel), by decide +kernel⟩
theorem xo_X5_isRunEnd : Cond.code yX5_isRunEnd cX5_isRunEnd 3 (some .boolean) ∈ xG := xmG 552 (by decide +kernel) (by decide +kernel)
theorem xn_X5_isRunEnd : Cond.initialized yX5_isRunEnd.cls ∈ xG := xmG 8 (by decide +kernel) (by decide +kernel)
theorem xt_X5_isRunEnd : Cond.instanceMethod yX5_isRunEnd ∈ xG ∧ Cond.selects yX5_isRunEnd.cls yX5_isRunEnd yX5_isRunEnd ∈ xG := ⟨xmG 551 (by decide +kernel) (by decide +kernel), xmS 24 (by decide +kernel) (by decide +kernel)⟩
theorem xm_X5_38 : xCW RX5 38 yX5_isRunEnd cX5_isRunEnd 3 (some .boolean) 2 := ⟨xo_X5_isRunEnd, xn_X5_isRunEnd, xmG 549 (by decide +kernel) (by decide +kernel), by decide +kernel⟩
theorem xo_X5_isEnough : Cond.code yX5_isEnough cX5_isEnough 6 (some .boolean) ∈ xG := xmG 556 (by decide +kernel) (by decide +kernel)
theorem xn_X5_isEnough : Cond.initialized yX5_isEnough.cls ∈ xG := xmG 8 (by decide +kernel) (by decide +kernel)
theorem xt_X5_isEnough : Cond.instanceMethod yX5_isEnough ∈ xG ∧ Cond.selects yX5_isEnough.cls yX5_isEnough yX5_isEnough ∈ xG := ⟨xmG 555 (by decide +kernel) (by decide +kernel), xmS 25 (by decide +kernel) (by decide +kernel)⟩
theorem xm_X5_42 : xCW RX5 42 yX5_isEnough cX5_isEnough 6 (some .boolean) 5 := ⟨xo_X5_isEnough, xn_X5_isEnough, xmG 553 (by decide +kernel) (by decide +kernel), by decide +kernel⟩
theorem xm_X5_61 : xCW RX5 61 yX3_countTexts cX3_countTexts 5 (some .int) 2 := ⟨xo_X3_countTexts, xn_X3_countTexts, xmG 557 (by decide +kernel) (by decide +kernel), by decide +kernel⟩
theorem xo_X8_longest : Cond.code yX8_longest cX8_longest 3 (some .int) ∈ xG := xmG 561 (by decide +kernel) (by decide +kernel)
theorem xn_X8_longest : Cond.initialized yX8_longest.cls ∈ xG := xmG 1 (by decide +kernel) (by decide +kernel)
theorem xt_X8_longest : Cond.instanceMethod yX8_longest ∈ xG ∧ Cond.selects yX8_longest.cls yX8_longest yX8_longest ∈ xG := ⟨xmG 559 (by decide +kernel) (by decide +kernel), xmG 560 (by decide +kernel) (by decide +kernel)⟩
theorem xm_L_83 : xCW RL 83 yX8_longest cX8_longest 3 (some .int) 2 := ⟨xo_X8_longest, xn_X8_longest, xmG 558 (by decide +kernel) (by decide +kernel), by decide +kernel⟩
theorem xo_X5_tellLongest : Cond.code yX5_tellLongest cX5_tellLongest 7 (some .int) ∈ xG := xmG 565 (by decide +kernel) (by decide +kernel)
theorem xn_X5_tellLongest : Cond.initialized yX5_tellLongest.cls ∈ xG := xmG 8 (by decide +kernel) (by decide +kernel)
theorem xt_X5_tellLongest : Cond.instanceMethod yX5_tellLongest ∈ xG ∧ Cond.selects yX5_tellLongest.cls yX5_tellLongest yX5_tellLongest ∈ xG := ⟨xmG 563 (by decide +kernel) (by decide +kernel), xmG 564 (by decide +kernel) (by decide +kernel)⟩
theorem xm_X8_167 : xCW RX8 167 yX5_tellLongest cX5_tellLongest 7 (some .int) 3 := ⟨xo_X5_tellLongest, xn_X5_tellLongest, xmG 562 (by decide +kernel) (by decide +kernel), by decide +kernel⟩
theorem xo_X5_longestLength : Cond.code yX5_longestLength cX5_longestLength 6 (some .int) ∈ xG := xmG 569 (by decide +kernel) (by decide +kernel)
theorem xn_X5_longestLength : Cond.initialized yX5_longestLength.cls ∈ xG := xmG 8 (by decide +kernel) (by decide +kernel)
theorem xt_X5_longestLength : Cond.instanceMethod yX5_longestLength ∈ xG ∧ Cond.selects yX5_longestLength.cls yX5_longestLength yX5_longestLength ∈ xG := ⟨xmG 568 (by decide +kernel) (by decide +kernel), xmS 26 (by decide +kernel) (by decide +kernel)⟩
theorem xm_X5_46 : xCW RX5 46 yX5_longestLength cX5_longestLength 6 (some .int) 2 := ⟨xo_X5_longestLength, xn_X5_longestLength, xmG 566 (by decide +kernel) (by decide +kernel), by decide +kernel⟩
theorem xo_X5_firstRunEnd : Cond.code yX5_firstRunEnd cX5_firstRunEnd 6 (some .int) ∈ xG := xmG 573 (by decide +kernel) (by decide +kernel)
theorem xn_X5_firstRunEnd : Cond.initialized yX5_firstRunEnd.cls ∈ xG := xmG 8 (by decide +kernel) (by decide +kernel)
theorem xt_X5_firstRunEnd : Cond.instanceMethod yX5_firstRunEnd ∈ xG ∧ Cond.selects yX5_firstRunEnd.cls yX5_firstRunEnd yX5_firstRunEnd ∈ xG := ⟨xmG 572 (by decide +kernel) (by decide +kernel), xmS 27 (by decide +kernel) (by decide +kernel)⟩
theorem xm_X5_50 : xCW RX5 50 yX5_firstRunEnd cX5_firstRunEnd 6 (some .int) 3 := ⟨xo_X5_firstRunEnd, xn_X5_firstRunEnd, xmG 570 (by decide +kernel) (by decide +kernel), by decide +kernel⟩
theorem xo_X5_runStart : Cond.code yX5_runStart cX5_runStart 4 (some .int) ∈ xG := xmG 577 (by decide +kernel) (by decide +kernel)
theorem xn_X5_runStart : Cond.initialized yX5_runStart.cls ∈ xG := xmG 8 (by decide +kernel) (by decide +kernel)
theorem xt_X5_runStart : Cond.instanceMethod yX5_runStart ∈ xG ∧ Cond.selects yX5_runStart.cls yX5_runStart yX5_runStart ∈ xG := ⟨xmG 576 (by decide +kernel) (by decide +kernel), xmS 28 (by decide +kernel) (by decide +kernel)⟩
theorem xm_X5_54 : xCW RX5 54 yX5_runStart cX5_runStart 4 (some .int) 2 := ⟨xo_X5_runStart, xn_X5_runStart, xmG 574 (by decide +kernel) (by decide +kernel), by decide +kernel⟩
theorem xm_X5_58 : xCW RX5 58 yX3_leastPlace cX3_leastPlace 5 (some .int) 2 := ⟨xo_X3_leastPlace, xn_X3_leastPlace, xmG 578 (by decide +kernel) (by decide +kernel), by decide +kernel⟩
theorem xo_X8_shared : Cond.code yX8_shared cX8_shared 3 (some .int) ∈ xG := xmG 582 (by decide +kernel) (by decide +kernel)
theorem xn_X8_shared : Cond.initialized yX8_shared.cls ∈ xG := xmG 1 (by decide +kernel) (by decide +kernel)
theorem xt_X8_shared : Cond.instanceMethod yX8_shared ∈ xG ∧ Cond.selects yX8_shared.cls yX8_shared yX8_shared ∈ xG := ⟨xmG 580 (by decide +kernel) (by decide +kernel), xmG 581 (by decide +kernel) (by decide +kernel)⟩
theorem xm_L_87 : xCW RL 87 yX8_shared cX8_shared 3 (some .int) 2 := ⟨xo_X8_shared, xn_X8_shared, xmG 579 (by decide +kernel) (by decide +kernel), by decide +kernel⟩
theorem xo_X8_before : Cond.code yX8_before cX8_before 2 (some .int) ∈ xG := xmG 586 (by decide +kernel) (by decide +kernel)
theorem xn_X8_before : Cond.initialized yX8_before.cls ∈ xG := xmG 1 (by decide +kernel) (by decide +kernel)
theorem xt_X8_before : Cond.instanceMethod yX8_before ∈ xG ∧ Cond.selects yX8_before.cls yX8_before yX8_before ∈ xG := ⟨xmG 584 (by decide +kernel) (by decide +kernel), xmG 585 (by decide +kernel) (by decide +kernel)⟩
theorem xm_L_91 : xCW RL 91 yX8_before cX8_before 2 (some .int) 1 := ⟨xo_X8_before, xn_X8_before, xmG 583 (by decide +kernel) (by decide +kernel), by decide +kernel⟩
theorem xo_X7_previous : Cond.code yX7_previous cX7_previous 2 (some .int) ∈ xG := xmG 590 (by decide +kernel) (by decide +kernel)
theorem xn_X7_previous : Cond.initialized yX7_previous.cls ∈ xG := xmG 3 (by decide +kernel) (by decide +kernel)
theorem xt_X7_previous : Cond.instanceMethod yX7_previous ∈ xG ∧ Cond.selects yX7_previous.cls yX7_previous yX7_previous ∈ xG := ⟨xmG 588 (by decide +kernel) (by decide +kernel), xmG 589 (by decide +kernel) (by decide +kernel)⟩
theorem xm_X8_171 : xCW RX8 171 yX7_previous cX7_previous 2 (some .int) 1 := ⟨xo_X7_previous, xn_X7_previous, xmG 587 (by decide +kernel) (by decide +kernel), by decide +kernel⟩
theorem xo_X8_back : Cond.code yX8_back cX8_back 2 (some .int) ∈ xG := xmG 594 (by decide +kernel) (by decide +kernel)
theorem xn_X8_back : Cond.initialized yX8_back.cls ∈ xG := xmG 1 (by decide +kernel) (by decide +kernel)
theorem xt_X8_back : Cond.instanceMethod yX8_back ∈ xG ∧ Cond.selects yX8_back.cls yX8_back yX8_back ∈ xG := ⟨xmG 592 (by decide +kernel) (by decide +kernel), xmG 593 (by decide +kernel) (by decide +kernel)⟩
theorem xm_L_95 : xCW RL 95 yX8_back cX8_back 2 (some .int) 1 := ⟨xo_X8_back, xn_X8_back, xmG 591 (by decide +kernel) (by decide +kernel), by decide +kernel⟩
theorem xo_X8_steps : Cond.code yX8_steps cX8_steps 3 (some .int) ∈ xG := xmG 598 (by decide +kernel) (by decide +kernel)
theorem xn_X8_steps : Cond.initialized yX8_steps.cls ∈ xG := xmG 1 (by decide +kernel) (by decide +kernel)
theorem xt_X8_steps : Cond.instanceMethod yX8_steps ∈ xG ∧ Cond.selects yX8_steps.cls yX8_steps yX8_steps ∈ xG := ⟨xmG 596 (by decide +kernel) (by decide +kernel), xmG 597 (by decide +kernel) (by decide +kernel)⟩
theorem xm_L_99 : xCW RL 99 yX8_steps cX8_steps 3 (some .int) 2 := ⟨xo_X8_steps, xn_X8_steps, xmG 595 (by decide +kernel) (by decide +kernel), by decide +kernel⟩
theorem xo_X8_swap : Cond.code yX8_swap cX8_swap 4 (some .int) ∈ xG := xmG 602 (by decide +kernel) (by decide +kernel)
theorem xn_X8_swap : Cond.initialized yX8_swap.cls ∈ xG := xmG 1 (by decide +kernel) (by decide +kernel)
theorem xt_X8_swap : Cond.instanceMethod yX8_swap ∈ xG ∧ Cond.selects yX8_swap.cls yX8_swap yX8_swap ∈ xG := ⟨xmG 600 (by decide +kernel) (by decide +kernel), xmG 601 (by decide +kernel) (by decide +kernel)⟩
theorem xm_L_103 : xCW RL 103 yX8_swap cX8_swap 4 (some .int) 2 := ⟨xo_X8_swap, xn_X8_swap, xmG 599 (by decide +kernel) (by decide +kernel), by decide +kernel⟩
theorem xo_X1_replace : Cond.code yX1_replace cX1_replace 4 (some .int) ∈ xG := xmG 606 (by decide +kernel) (by decide +kernel)
theorem xn_X1_replace : Cond.initialized yX1_replace.cls ∈ xG := xmG 9 (by decide +kernel) (by decide +kernel)
theorem xt_X1_replace : Cond.instanceMethod yX1_replace ∈ xG ∧ Cond.selects yX1_replace.cls yX1_replace yX1_replace ∈ xG := ⟨xmG 604 (by decide +kernel) (by decide +kernel), xmG 605 (by decide +kernel) (by decide +kernel)⟩
theorem xm_X8_177 : xCW RX8 177 yX1_replace cX1_replace 4 (some .int) 2 := ⟨xo_X1_replace, xn_X1_replace, xmG 603 (by decide +kernel) (by decide +kernel), by decide +kernel⟩
theorem xo_X8_tell : Cond.code yX8_tell cX8_tell 3 (some .int) ∈ xG := xmG 610 (by decide +kernel) (by decide +kernel)
theorem xn_X8_tell : Cond.initialized yX8_tell.cls ∈ xG := xmG 1 (by decide +kernel) (by decide +kernel)
theorem xt_X8_tell : Cond.instanceMethod yX8_tell ∈ xG ∧ Cond.selects yX8_tell.cls yX8_tell yX8_tell ∈ xG := ⟨xmG 608 (by decide +kernel) (by decide +kernel), xmG 609 (by decide +kernel) (by decide +kernel)⟩
theorem xm_L_107 : xCW RL 107 yX8_tell cX8_tell 3 (some .int) 2 := ⟨xo_X8_tell, xn_X8_tell, xmG 607 (by decide +kernel) (by decide +kernel), by decide +kernel⟩
theorem xo_X8_judge : Cond.code yX8_judge cX8_judge 1 (some .int) ∈ xG := xmG 614 (by decide +kernel) (by decide +kernel)
theorem xn_X8_judge : Cond.initialized yX8_judge.cls ∈ xG := xmG 1 (by decide +kernel) (by decide +kernel)
theorem xt_X8_judge : Cond.instanceMethod yX8_judge ∈ xG ∧ Cond.selects yX8_judge.cls yX8_judge yX8_judge ∈ xG := ⟨xmG 612 (by decide +kernel) (by decide +kernel), xmG 613 (by decide +kernel) (by decide +kernel)⟩
theorem xm_L_111 : xCW RL 111 yX8_judge cX8_judge 1 (some .int) 0 := ⟨xo_X8_judge, xn_X8_judge, xmG 611 (by decide +kernel) (by decide +kernel), by decide +kernel⟩
theorem xo_X1_firstWrong : Cond.code yX1_firstWrong cX1_firstWrong 4 (some .int) ∈ xG := xmG 618 (by decide +kernel) (by decide +kernel)
theorem xn_X1_firstWrong : Cond.initialized yX1_firstWrong.cls ∈ xG := xmG 9 (by decide +kernel) (by decide +kernel)
theorem xt_X1_firstWrong : Cond.instanceMethod yX1_firstWrong ∈ xG ∧ Cond.selects yX1_firstWrong.cls yX1_firstWrong yX1_firstWrong ∈ xG := ⟨xmG 616 (by decide +kernel) (by decide +kernel), xmG 617 (by decide +kernel) (by decide +kernel)⟩
theorem xm_X8_180 : xCW RX8 180 yX1_firstWrong cX1_firstWrong 4 (some .int) 0 := ⟨xo_X1_firstWrong, xn_X1_firstWrong, xmG 615 (by decide +kernel) (by decide +kernel), by decide +kernel⟩
theorem xm_X1_40 : xCW RX1 40 yX7_has cX7_has 2 (some .boolean) 1 := ⟨xo_X7_has, xn_X7_has, xmG 619 (by decide +kernel) (by decide +kernel), by decide +kernel⟩
theorem xo_X9_init : Cond.code yX9_init cX9_init 1 none ∈ xG := xmG 624 (by decide +kernel) (by decide +kernel)
theorem xn_X9_init : Cond.initialized yX9_init.cls ∈ xG := xmG 10 (by decide +kernel) (by decide +kernel)
theorem xm_L_12 : xCW RL 12 yX9_init cX9_init 1 none 0 := ⟨xo_X9_init, xn_X9_init, xmG 622 (by decide +kernel) (by decide +kernel), by decide +kernel⟩
theorem xo_X9_add : Cond.code yX9_add cX9_add 6 (some .int) ∈ xG := xmG 676 (by decide +kernel) (by decide +kernel)
theorem xn_X9_add : Cond.initialized yX9_add.cls ∈ xG := xmG 10 (by decide +kernel) (by decide +kernel)
theorem xt_X9_add : Cond.instanceMethod yX9_add ∈ xG ∧ Cond.selects yX9_add.cls yX9_add yX9_add ∈ xG := ⟨xmG 674 (by decide +kernel) (by decide +kernel), xmG 675 (by decide +kernel) (by decide +kernel)⟩
theorem xm_L_17 : xCW RL 17 yX9_add cX9_add 6 (some .int) 5 := ⟨xo_X9_add, xn_X9_add, xmG 673 (by decide +kernel) (by decide +kernel), by decide +kernel⟩
theorem xo_X9_isText : Cond.code yX9_isText cX9_isText 1 (some .boolean) ∈ xG := xmG 679 (by decide +kernel) (by decide +kernel)
theorem xn_X9_isText : Cond.initialized yX9_isText.cls ∈ xG := xmG 10 (by decide +kernel) (by decide +kernel)
theorem xt_X9_isText : Cond.static yX9_isText ∈ xG := xmG 678 (by decide +kernel) (by decide +kernel)
theorem xm_X9_55 : xCW RX9 55 yX9_isText cX9_isText 1 (some .boolean) 1 := ⟨xo_X9_isText, xn_X9_isText, xmG 677 (by decide +kernel) (by decide +kernel), by decide +kernel⟩
theorem xo_X9_isGiven : Cond.code yX9_isGiven cX9_isGiven 1 (some .boolean) ∈ xG := xmG 682 (by decide +kernel) (by decide +kernel)
theorem xn_X9_isGiven : Cond.initialized yX9_isGiven.cls ∈ xG := xmG 10 (by decide +kernel) (by decide +kernel)
theorem xt_X9_isGiven : Cond.static yX9_isGiven ∈ xG := xmG 681 (by decide +kernel) (by decide +kernel)
theorem xm_X9_59 : xCW RX9 59 yX9_isGiven cX9_isGiven 1 (some .boolean) 1 := ⟨xo_X9_isGiven, xn_X9_isGiven, xmG 680 (by decide +kernel) (by decide +kernel), by decide +kernel⟩
theorem xo_X9_given : Cond.code yX9_given cX9_given 4 (some .int) ∈ xG := xmG 685 (by decide +kernel) (by decide +kernel)
theorem xn_X9_given : Cond.initialized yX9_given.cls ∈ xG := xmG 10 (by decide +kernel) (by decide +kernel)
theorem xt_X9_given : Cond.static yX9_given ∈ xG := xmG 684 (by decide +kernel) (by decide +kernel)
theorem xm_X9_62 : xCW RX9 62 yX9_given cX9_given 4 (some .int) 4 := ⟨xo_X9_given, xn_X9_given, xmG 683 (by decide +kernel) (by decide +kernel), by decide +kernel⟩
theorem xo_X9_comeTo : Cond.code yX9_comeTo cX9_comeTo 3 none ∈ xG := xmG 689 (by decide +kernel) (by decide +kernel)
theorem xn_X9_comeTo : Cond.initialized yX9_comeTo.cls ∈ xG := xmG 10 (by decide +kernel) (by decide +kernel)
theorem xt_X9_comeTo : Cond.instanceMethod yX9_comeTo ∈ xG ∧ Cond.selects yX9_comeTo.cls yX9_comeTo yX9_comeTo ∈ xG := ⟨xmG 688 (by decide +kernel) (by decide +kernel), xmS 29 (by decide +kernel) (by decide +kernel)⟩
theorem xm_X9_66 : xCW RX9 66 yX9_comeTo cX9_comeTo 3 none 2 := ⟨xo_X9_comeTo, xn_X9_comeTo, xmG 686 (by decide +kernel) (by decide +kernel), by decide +kernel⟩
theorem xo_X9_cut : Cond.code yX9_cut cX9_cut 3 (some .int) ∈ xG := xmG 693 (by decide +kernel) (by decide +kernel)
theorem xn_X9_cut : Cond.initialized yX9_cut.cls ∈ xG := xmG 10 (by decide +kernel) (by decide +kernel)
theorem xt_X9_cut : Cond.instanceMethod yX9_cut ∈ xG ∧ Cond.selects yX9_cut.cls yX9_cut yX9_cut ∈ xG := ⟨xmG 691 (by decide +kernel) (by decide +kernel), xmG 692 (by decide +kernel) (by decide +kernel)⟩
theorem xm_L_22 : xCW RL 22 yX9_cut cX9_cut 3 (some .int) 2 := ⟨xo_X9_cut, xn_X9_cut, xmG 690 (by decide +kernel) (by decide +kernel), by decide +kernel⟩
theorem xo_X9_build : Cond.code yX9_build cX9_build 4 (some .int) ∈ xG := xmG 697 (by decide +kernel) (by decide +kernel)
theorem xn_X9_build : Cond.initialized yX9_build.cls ∈ xG := xmG 10 (by decide +kernel) (by decide +kernel)
theorem xt_X9_build : Cond.instanceMethod yX9_build ∈ xG ∧ Cond.selects yX9_build.cls yX9_build yX9_build ∈ xG := ⟨xmG 695 (by decide +kernel) (by decide +kernel), xmG 696 (by decide +kernel) (by decide +kernel)⟩
theorem xm_L_27 : xCW RL 27 yX9_build cX9_build 4 (some .int) 0 := ⟨xo_X9_build, xn_X9_build, xmG 694 (by decide +kernel) (by decide +kernel), by decide +kernel⟩
theorem xo_X9_isLess : Cond.code yX9_isLess cX9_isLess 6 (some .boolean) ∈ xG := xmG 701 (by decide +kernel) (by decide +kernel)
theorem xn_X9_isLess : Cond.initialized yX9_isLess.cls ∈ xG := xmG 10 (by decide +kernel) (by decide +kernel)
theorem xt_X9_isLess : Cond.instanceMethod yX9_isLess ∈ xG ∧ Cond.selects yX9_isLess.cls yX9_isLess yX9_isLess ∈ xG := ⟨xmG 700 (by decide +kernel) (by decide +kernel), xmS 30 (by decide +kernel) (by decide +kernel)⟩
theorem xm_X9_74 : xCW RX9 74 yX9_isLess cX9_isLess 6 (some .boolean) 2 := ⟨xo_X9_isLess, xn_X9_isLess, xmG 698 (by decide +kernel) (by decide +kernel), by decide +kernel⟩
theorem xo_X9_common0 : Cond.code yX9_common0 cX9_common0 3 (some .int) ∈ xG := xmG 705 (by decide +kernel) (by decide +kernel)
theorem xn_X9_common0 : Cond.initialized yX9_common0.cls ∈ xG := xmG 10 (by decide +kernel) (by decide +kernel)
theorem xt_X9_common0 : Cond.instanceMethod yX9_common0 ∈ xG ∧ Cond.selects yX9_common0.cls yX9_common0 yX9_common0 ∈ xG := ⟨xmG 704 (by decide +kernel) (by decide +kernel), xmS 31 (by decide +kernel) (by decide +kernel)⟩
theorem xm_X9_70 : xCW RX9 70 yX9_common0 cX9_common0 3 (some .int) 2 := ⟨xo_X9_common0, xn_X9_common0, xmG 702 (by decide +kernel) (by decide +kernel), by decide +kernel⟩
theorem xo_X9_sign : Cond.code yX9_sign cX9_sign 2 (some .int) ∈ xG := xmG 709 (by decide +kernel) (by decide +kernel)
theorem xn_X9_sign : Cond.initialized yX9_sign.cls ∈ xG := xmG 10 (by decide +kernel) (by decide +kernel)
theorem xt_X9_sign : Cond.instanceMethod yX9_sign ∈ xG ∧ Cond.selects yX9_sign.cls yX9_sign yX9_sign ∈ xG := ⟨xmG 707 (by decide +kernel) (by decide +kernel), xmG 708 (by decide +kernel) (by decide +kernel)⟩
theorem xm_L_32 : xCW RL 32 yX9_sign cX9_sign 2 (some .int) 1 := ⟨xo_X9_sign, xn_X9_sign, xmG 706 (by decide +kernel) (by decide +kernel), by decide +kernel⟩
theorem xo_X9_isPlace : Cond.code yX9_isPlace cX9_isPlace 2 (some .boolean) ∈ xG := xmG 713 (by decide +kernel) (by decide +kernel)
theorem xn_X9_isPlace : Cond.initialized yX9_isPlace.cls ∈ xG := xmG 10 (by decide +kernel) (by decide +kernel)
theorem xt_X9_isPlace : Cond.instanceMethod yX9_isPlace ∈ xG ∧ Cond.selects yX9_isPlace.cls yX9_isPlace yX9_isPlace ∈ xG := ⟨xmG 712 (by decide +kernel) (by decide +kernel), xmS 32 (by decide +kernel) (by decide +kernel)⟩
theorem xm_X9_78 : xCW RX9 78 yX9_isPlace cX9_isPlace 2 (some .boolean) 1 := ⟨xo_X9_isPlace, xn_X9_isPlace, xmG 710 (by decide +kernel) (by decide +kernel), by decide +kernel⟩
theorem xo_X9_text : Cond.code yX9_text cX9_text 3 (some .int) ∈ xG := xmG 717 (by decide +kernel) (by decide +kernel)
theorem xn_X9_text : Cond.initialized yX9_text.cls ∈ xG := xmG 10 (by decide +kernel) (by decide +kernel)
theorem xt_X9_text : Cond.instanceMethod yX9_text ∈ xG ∧ Cond.selects yX9_text.cls yX9_text yX9_text ∈ xG := ⟨xmG 715 (by decide +kernel) (by decide +kernel), xmG 716 (by decide +kernel) (by decide +kernel)⟩
theorem xm_L_36 : xCW RL 36 yX9_text cX9_text 3 (some .int) 2 := ⟨xo_X9_text, xn_X9_text, xmG 714 (by decide +kernel) (by decide +kernel), by decide +kernel⟩
theorem xo_X9_at : Cond.code yX9_at cX9_at 2 (some .int) ∈ xG := xmG 721 (by decide +kernel) (by decide +kernel)
theorem xn_X9_at : Cond.initialized yX9_at.cls ∈ xG := xmG 10 (by decide +kernel) (by decide +kernel)
theorem xt_X9_at : Cond.instanceMethod yX9_at ∈ xG ∧ Cond.selects yX9_at.cls yX9_at yX9_at ∈ xG := ⟨xmG 719 (by decide +kernel) (by decide +kernel), xmG 720 (by decide +kernel) (by decide +kernel)⟩
theorem xm_L_40 : xCW RL 40 yX9_at cX9_at 2 (some .int) 1 := ⟨xo_X9_at, xn_X9_at, xmG 718 (by decide +kernel) (by decide +kernel), by decide +kernel⟩
theorem xo_X9_rank : Cond.code yX9_rank cX9_rank 2 (some .int) ∈ xG := xmG 725 (by decide +kernel) (by decide +kernel)
theorem xn_X9_rank : Cond.initialized yX9_rank.cls ∈ xG := xmG 10 (by decide +kernel) (by decide +kernel)
theorem xt_X9_rank : Cond.instanceMethod yX9_rank ∈ xG ∧ Cond.selects yX9_rank.cls yX9_rank yX9_rank ∈ xG := ⟨xmG 723 (by decide +kernel) (by decide +kernel), xmG 724 (by decide +kernel) (by decide +kernel)⟩
theorem xm_L_44 : xCW RL 44 yX9_rank cX9_rank 2 (some .int) 1 := ⟨xo_X9_rank, xn_X9_rank, xmG 722 (by decide +kernel) (by decide +kernel), by decide +kernel⟩
theorem xo_X9_beside : Cond.code yX9_beside cX9_beside 2 (some .int) ∈ xG := xmG 729 (by decide +kernel) (by decide +kernel)
theorem xn_X9_beside : Cond.initialized yX9_beside.cls ∈ xG := xmG 10 (by decide +kernel) (by decide +kernel)
theorem xt_X9_beside : Cond.instanceMethod yX9_beside ∈ xG ∧ Cond.selects yX9_beside.cls yX9_beside yX9_beside ∈ xG := ⟨xmG 727 (by decide +kernel) (by decide +kernel), xmG 728 (by decide +kernel) (by decide +kernel)⟩
theorem xm_L_48 : xCW RL 48 yX9_beside cX9_beside 2 (some .int) 1 := ⟨xo_X9_beside, xn_X9_beside, xmG 726 (by decide +kernel) (by decide +kernel), by decide +kernel⟩
theorem xo_X9_beside0 : Cond.code yX9_beside0 cX9_beside0 2 (some .int) ∈ xG := xmG 733 (by decide +kernel) (by decide +kernel)
theorem xn_X9_beside0 : Cond.initialized yX9_beside0.cls ∈ xG := xmG 10 (by decide +kernel) (by decide +kernel)
theorem xt_X9_beside0 : Cond.instanceMethod yX9_beside0 ∈ xG ∧ Cond.selects yX9_beside0.cls yX9_beside0 yX9_beside0 ∈ xG := ⟨xmG 732 (by decide +kernel) (by decide +kernel), xmS 33 (by decide +kernel) (by decide +kernel)⟩
theorem xm_X9_81 : xCW RX9 81 yX9_beside0 cX9_beside0 2 (some .int) 1 := ⟨xo_X9_beside0, xn_X9_beside0, xmG 730 (by decide +kernel) (by decide +kernel), by decide +kernel⟩
theorem xo_X9_common : Cond.code yX9_common cX9_common 3 (some .int) ∈ xG := xmG 737 (by decide +kernel) (by decide +kernel)
theorem xn_X9_common : Cond.initialized yX9_common.cls ∈ xG := xmG 10 (by decide +kernel) (by decide +kernel)
theorem xt_X9_common : Cond.instanceMethod yX9_common ∈ xG ∧ Cond.selects yX9_common.cls yX9_common yX9_common ∈ xG := ⟨xmG 735 (by decide +kernel) (by decide +kernel), xmG 736 (by decide +kernel) (by decide +kernel)⟩
theorem xm_L_52 : xCW RL 52 yX9_common cX9_common 3 (some .int) 2 := ⟨xo_X9_common, xn_X9_common, xmG 734 (by decide +kernel) (by decide +kernel), by decide +kernel⟩
theorem xo_X9_copy : Cond.code yX9_copy cX9_copy 7 (some .int) ∈ xG := xmG 741 (by decide +kernel) (by decide +kernel)
theorem xn_X9_copy : Cond.initialized yX9_copy.cls ∈ xG := xmG 10 (by decide +kernel) (by decide +kernel)
theorem xt_X9_copy : Cond.instanceMethod yX9_copy ∈ xG ∧ Cond.selects yX9_copy.cls yX9_copy yX9_copy ∈ xG := ⟨xmG 739 (by decide +kernel) (by decide +kernel), xmG 740 (by decide +kernel) (by decide +kernel)⟩
theorem xm_L_56 : xCW RL 56 yX9_copy cX9_copy 7 (some .int) 2 := ⟨xo_X9_copy, xn_X9_copy, xmG 738 (by decide +kernel) (by decide +kernel), by decide +kernel⟩
theorem xo_X9_copyOf : Cond.code yX9_copyOf cX9_copyOf 5 (some .int) ∈ xG := xmG 745 (by decide +kernel) (by decide +kernel)
theorem xn_X9_copyOf : Cond.initialized yX9_copyOf.cls ∈ xG := xmG 10 (by decide +kernel) (by decide +kernel)
theorem xt_X9_copyOf : Cond.instanceMethod yX9_copyOf ∈ xG ∧ Cond.selects yX9_copyOf.cls yX9_copyOf yX9_copyOf ∈ xG := ⟨xmG 744 (by decide +kernel) (by decide +kernel), xmS 34 (by decide +kernel) (by decide +kernel)⟩
theorem xm_X9_85 : xCW RX9 85 yX9_copyOf cX9_copyOf 5 (some .int) 1 := ⟨xo_X9_copyOf, xn_X9_copyOf, xmG 742 (by decide +kernel) (by decide +kernel), by decide +kernel⟩
theorem xo_X9_pattern : Cond.code yX9_pattern cX9_pattern 7 (some .int) ∈ xG := xmG 749 (by decide +kernel) (by decide +kernel)
theorem xn_X9_pattern : Cond.initialized yX9_pattern.cls ∈ xG := xmG 10 (by decide +kernel) (by decide +kernel)
theorem xt_X9_pattern : Cond.instanceMethod yX9_pattern ∈ xG ∧ Cond.selects yX9_pattern.cls yX9_pattern yX9_pattern ∈ xG := ⟨xmG 747 (by decide +kernel) (by decide +kernel), xmG 748 (by decide +kernel) (by decide +kernel)⟩
theorem xm_L_61 : xCW RL 61 yX9_pattern cX9_pattern 7 (some .int) 4 := ⟨xo_X9_pattern, xn_X9_pattern, xmG 746 (by decide +kernel) (by decide +kernel), by decide +kernel⟩
theorem xo_X9_wipe : Cond.code yX9_wipe cX9_wipe 2 (some .int) ∈ xG := xmG 753 (by decide +kernel) (by decide +kernel)
theorem xn_X9_wipe : Cond.initialized yX9_wipe.cls ∈ xG := xmG 10 (by decide +kernel) (by decide +kernel)
theorem xt_X9_wipe : Cond.instanceMethod yX9_wipe ∈ xG ∧ Cond.selects yX9_wipe.cls yX9_wipe yX9_wipe ∈ xG := ⟨xmG 751 (by decide +kernel) (by decide +kernel), xmG 752 (by decide +kernel) (by decide +kernel)⟩
theorem xm_L_65 : xCW RL 65 yX9_wipe cX9_wipe 2 (some .int) 0 := ⟨xo_X9_wipe, xn_X9_wipe, xmG 750 (by decide +kernel) (by decide +kernel), by decide +kernel⟩
theorem xo_X9_find : Cond.code yX9_find cX9_find 11 (some .int) ∈ xG := xmG 757 (by decide +kernel) (by decide +kernel)
theorem xn_X9_find : Cond.initialized yX9_find.cls ∈ xG := xmG 10 (by decide +kernel) (by decide +kernel)
theorem xt_X9_find : Cond.instanceMethod yX9_find ∈ xG ∧ Cond.selects yX9_find.cls yX9_find yX9_find ∈ xG := ⟨xmG 755 (by decide +kernel) (by decide +kernel), xmG 756 (by decide +kernel) (by decide +kernel)⟩
theorem xm_L_69 : xCW RL 69 yX9_find cX9_find 11 (some .int) 1 := ⟨xo_X9_find, xn_X9_find, xmG 754 (by decide +kernel) (by decide +kernel), by decide +kernel⟩
theorem xo_X9_matched : Cond.code yX9_matched cX9_matched 3 (some .int) ∈ xG := xmG 761 (by decide +kernel) (by decide +kernel)
theorem xn_X9_matched : Cond.initialized yX9_matched.cls ∈ xG := xmG 10 (by decide +kernel) (by decide +kernel)
theorem xt_X9_matched : Cond.instanceMethod yX9_matched ∈ xG ∧ Cond.selects yX9_matched.cls yX9_matched yX9_matched ∈ xG := ⟨xmG 760 (by decide +kernel) (by decide +kernel), xmS 35 (by decide +kernel) (by decide +kernel)⟩
theorem xm_X9_91 : xCW RX9 91 yX9_matched cX9_matched 3 (some .int) 1 := ⟨xo_X9_matched, xn_X9_matched, xmG 758 (by decide +kernel) (by decide +kernel), by decide +kernel⟩
theorem xo_X9_where : Cond.code yX9_where cX9_where 4 (some .int) ∈ xG := xmG 765 (by decide +kernel) (by decide +kernel)
theorem xn_X9_where : Cond.initialized yX9_where.cls ∈ xG := xmG 10 (by decide +kernel) (by decide +kernel)
theorem xt_X9_where : Cond.instanceMethod yX9_where ∈ xG ∧ Cond.selects yX9_where.cls yX9_where yX9_where ∈ xG := ⟨xmG 763 (by decide +kernel) (by decide +kernel), xmG 764 (by decide +kernel) (by decide +kernel)⟩
theorem xm_L_73 : xCW RL 73 yX9_where cX9_where 4 (some .int) 1 := ⟨xo_X9_where, xn_X9_where, xmG 762 (by decide +kernel) (by decide +kernel), by decide +kernel⟩
theorem xo_X9_different : Cond.code yX9_different cX9_different 4 (some .long) ∈ xG := xmG 769 (by decide +kernel) (by decide +kernel)
theorem xn_X9_different : Cond.initialized yX9_different.cls ∈ xG := xmG 10 (by decide +kernel) (by decide +kernel)
theorem xt_X9_different : Cond.instanceMethod yX9_different ∈ xG ∧ Cond.selects yX9_different.cls yX9_different yX9_different ∈ xG := ⟨xmG 767 (by decide +kernel) (by decide +kernel), xmG 768 (by decide +kernel) (by decide +kernel)⟩
theorem xm_L_78 : xCW RL 78 yX9_different cX9_different 4 (some .long) 0 := ⟨xo_X9_different, xn_X9_different, xmG 766 (by decide +kernel) (by decide +kernel), by decide +kernel⟩
theorem xo_X9_toEnd : Cond.code yX9_toEnd cX9_toEnd 2 (some .int) ∈ xG := xmG 773 (by decide +kernel) (by decide +kernel)
theorem xn_X9_toEnd : Cond.initialized yX9_toEnd.cls ∈ xG := xmG 10 (by decide +kernel) (by decide +kernel)
theorem xt_X9_toEnd : Cond.instanceMethod yX9_toEnd ∈ xG ∧ Cond.selects yX9_toEnd.cls yX9_toEnd yX9_toEnd ∈ xG := ⟨xmG 772 (by decide +kernel) (by decide +kernel), xmS 36 (by decide +kernel) (by decide +kernel)⟩
theorem xm_X9_94 : xCW RX9 94 yX9_toEnd cX9_toEnd 2 (some .int) 1 := ⟨xo_X9_toEnd, xn_X9_toEnd, xmG 770 (by decide +kernel) (by decide +kernel), by decide +kernel⟩
theorem xo_X9_repeats : Cond.code yX9_repeats cX9_repeats 7 (some .int) ∈ xG := xmG 777 (by decide +kernel) (by decide +kernel)
theorem xn_X9_repeats : Cond.initialized yX9_repeats.cls ∈ xG := xmG 10 (by decide +kernel) (by decide +kernel)
theorem xt_X9_repeats : Cond.instanceMethod yX9_repeats ∈ xG ∧ Cond.selects yX9_repeats.cls yX9_repeats yX9_repeats ∈ xG := ⟨xmG 775 (by decide +kernel) (by decide +kernel), xmG 776 (by decide +kernel) (by decide +kernel)⟩
theorem xm_L_82 : xCW RL 82 yX9_repeats cX9_repeats 7 (some .int) 2 := ⟨xo_X9_repeats, xn_X9_repeats, xmG 774 (by decide +kernel) (by decide +kernel), by decide +kernel⟩
theorem xo_X9_longest : Cond.code yX9_longest cX9_longest 8 (some .int) ∈ xG := xmG 781 (by decide +kernel) (by decide +kernel)
theorem xn_X9_longest : Cond.initialized yX9_longest.cls ∈ xG := xmG 10 (by decide +kernel) (by decide +kernel)
theorem xt_X9_longest : Cond.instanceMethod yX9_longest ∈ xG ∧ Cond.selects yX9_longest.cls yX9_longest yX9_longest ∈ xG := ⟨xmG 779 (by decide +kernel) (by decide +kernel), xmG 780 (by decide +kernel) (by decide +kernel)⟩
theorem xm_L_86 : xCW RL 86 yX9_longest cX9_longest 8 (some .int) 2 := ⟨xo_X9_longest, xn_X9_longest, xmG 778 (by decide +kernel) (by decide +kernel), by decide +kernel⟩
theorem xo_X9_tellStretch : Cond.code yX9_tellStretch cX9_tellStretch 9 (some .int) ∈ xG := xmG 785 (by decide +kernel) (by decide +kernel)
theorem xn_X9_tellStretch : Cond.initialized yX9_tellStretch.cls ∈ xG := xmG 10 (by decide +kernel) (by decide +kernel)
theorem xt_X9_tellStretch : Cond.instanceMethod yX9_tellStretch ∈ xG ∧ Cond.selects yX9_tellStretch.cls yX9_tellStretch yX9_tellStretch ∈ xG := ⟨xmG 784 (by decide +kernel) (by decide +kernel), xmS 37 (by decide +kernel) (by decide +kernel)⟩
theorem xm_X9_97 : xCW RX9 97 yX9_tellStretch cX9_tellStretch 9 (some .int) 3 := ⟨xo_X9_tellStretch, xn_X9_tellStretch, xmG 782 (by decide +kernel) (by decide +kernel), by decide +kernel⟩
theorem xo_X9_shared : Cond.code yX9_shared cX9_shared 8 (some .int) ∈ xG := xmG 789 (by decide +kernel) (by decide +kernel)
theorem xn_X9_shared : Cond.initialized yX9_shared.cls ∈ xG := xmG 10 (by decide +kernel) (by decide +kernel)
theorem xt_X9_shared : Cond.instanceMethod yX9_shared ∈ xG ∧ Cond.selects yX9_shared.cls yX9_shared yX9_shared ∈ xG := ⟨xmG 787 (by decide +kernel) (by decide +kernel), xmG 788 (by decide +kernel) (by decide +kernel)⟩
theorem xm_L_90 : xCW RL 90 yX9_shared cX9_shared 8 (some .int) 2 := ⟨xo_X9_shared, xn_X9_shared, xmG 786 (by decide +kernel) (by decide +kernel), by decide +kernel⟩
theorem xo_X9_mth : Cond.code yX9_mth cX9_mth 6 (some .int) ∈ xG := xmG 793 (by decide +kernel) (by decide +kernel)
theorem xn_X9_mth : Cond.initialized yX9_mth.cls ∈ xG := xmG 10 (by decide +kernel) (by decide +kernel)
theorem xt_X9_mth : Cond.instanceMethod yX9_mth ∈ xG ∧ Cond.selects yX9_mth.cls yX9_mth yX9_mth ∈ xG := ⟨xmG 792 (by decide +kernel) (by decide +kernel), xmS 38 (by decide +kernel) (by decide +kernel)⟩
theorem xm_X9_101 : xCW RX9 101 yX9_mth cX9_mth 6 (some .int) 1 := ⟨xo_X9_mth, xn_X9_mth, xmG 790 (by decide +kernel) (by decide +kernel), by decide +kernel⟩
theorem xo_X9_before : Cond.code yX9_before cX9_before 2 (some .int) ∈ xG := xmG 797 (by decide +kernel) (by decide +kernel)
theorem xn_X9_before : Cond.initialized yX9_before.cls ∈ xG := xmG 10 (by decide +kernel) (by decide +kernel)
theorem xt_X9_before : Cond.instanceMethod yX9_before ∈ xG ∧ Cond.selects yX9_before.cls yX9_before yX9_before ∈ xG := ⟨xmG 795 (by decide +kernel) (by decide +kernel), xmG 796 (by decide +kernel) (by decide +kernel)⟩
theorem xm_L_94 : xCW RL 94 yX9_before cX9_before 2 (some .int) 1 := ⟨xo_X9_before, xn_X9_before, xmG 794 (by decide +kernel) (by decide +kernel), by decide +kernel⟩
theorem xo_X9_placeBefore : Cond.code yX9_placeBefore cX9_placeBefore 2 (some .int) ∈ xG := xmG 801 (by decide +kernel) (by decide +kernel)
theorem xn_X9_placeBefore : Cond.initialized yX9_placeBefore.cls ∈ xG := xmG 10 (by decide +kernel) (by decide +kernel)
theorem xt_X9_placeBefore : Cond.instanceMethod yX9_placeBefore ∈ xG ∧ Cond.selects yX9_placeBefore.cls yX9_placeBefore yX9_placeBefore ∈ xG := ⟨xmG 800 (by decide +kernel) (by decide +kernel), xmS 39 (by decide +kernel) (by decide +kernel)⟩
theorem xm_X9_104 : xCW RX9 104 yX9_placeBefore cX9_placeBefore 2 (some .int) 1 := ⟨xo_X9_placeBefore, xn_X9_placeBefore, xmG 798 (by decide +kernel) (by decide +kernel), by decide +kernel⟩
theorem xo_X9_back : Cond.code yX9_back cX9_back 2 (some .int) ∈ xG := xmG 805 (by decide +kernel) (by decide +kernel)
theorem xn_X9_back : Cond.initialized yX9_back.cls ∈ xG := xmG 10 (by decide +kernel) (by decide +kernel)
theorem xt_X9_back : Cond.instanceMethod yX9_back ∈ xG ∧ Cond.selects yX9_back.cls yX9_back yX9_back ∈ xG := ⟨xmG 803 (by decide +kernel) (by decide +kernel), xmG 804 (by decide +kernel) (by decide +kernel)⟩
theorem xm_L_98 : xCW RL 98 yX9_back cX9_back 2 (some .int) 1 := ⟨xo_X9_back, xn_X9_back, xmG 802 (by decide +kernel) (by decide +kernel), by decide +kernel⟩
theorem xo_X9_steps : Cond.code yX9_steps cX9_steps 5 (some .int) ∈ xG := xmG 809 (by decide +kernel) (by decide +kernel)
theorem xn_X9_steps : Cond.initialized yX9_steps.cls ∈ xG := xmG 10 (by decide +kernel) (by decide +kernel)
theorem xt_X9_steps : Cond.instanceMethod yX9_steps ∈ xG ∧ Cond.selects yX9_steps.cls yX9_steps yX9_steps ∈ xG := ⟨xmG 807 (by decide +kernel) (by decide +kernel), xmG 808 (by decide +kernel) (by decide +kernel)⟩
theorem xm_L_102 : xCW RL 102 yX9_steps cX9_steps 5 (some .int) 2 := ⟨xo_X9_steps, xn_X9_steps, xmG 806 (by decide +kernel) (by decide +kernel), by decide +kernel⟩
theorem xo_X9_swap : Cond.code yX9_swap cX9_swap 4 (some .int) ∈ xG := xmG 813 (by decide +kernel) (by decide +kernel)
theorem xn_X9_swap : Cond.initialized yX9_swap.cls ∈ xG := xmG 10 (by decide +kernel) (by decide +kernel)
theorem xt_X9_swap : Cond.instanceMethod yX9_swap ∈ xG ∧ Cond.selects yX9_swap.cls yX9_swap yX9_swap ∈ xG := ⟨xmG 811 (by decide +kernel) (by decide +kernel), xmG 812 (by decide +kernel) (by decide +kernel)⟩
theorem xm_L_106 : xCW RL 106 yX9_swap cX9_swap 4 (some .int) 2 := ⟨xo_X9_swap, xn_X9_swap, xmG 810 (by decide +kernel) (by decide +kernel), by decide +kernel⟩
theorem xo_X9_tell : Cond.code yX9_tell cX9_tell 4 (some .int) ∈ xG := xmG 817 (by decide +kernel) (by decide +kernel)
theorem xn_X9_tell : Cond.initialized yX9_tell.cls ∈ xG := xmG 10 (by decide +kernel) (by decide +kernel)
theorem xt_X9_tell : Cond.instanceMethod yX9_tell ∈ xG ∧ Cond.selects yX9_tell.cls yX9_tell yX9_tell ∈ xG := ⟨xmG 815 (by decide +kernel) (by decide +kernel), xmG 816 (by decide +kernel) (by decide +kernel)⟩
theorem xm_L_110 : xCW RL 110 yX9_tell cX9_tell 4 (some .int) 2 := ⟨xo_X9_tell, xn_X9_tell, xmG 814 (by decide +kernel) (by decide +kernel), by decide +kernel⟩
theorem xo_X9_judge : Cond.code yX9_judge cX9_judge 3 (some .int) ∈ xG := xmG 821 (by decide +kernel) (by decide +kernel)
theorem xn_X9_judge : Cond.initialized yX9_judge.cls ∈ xG := xmG 10 (by decide +kernel) (by decide +kernel)
theorem xt_X9_judge : Cond.instanceMethod yX9_judge ∈ xG ∧ Cond.selects yX9_judge.cls yX9_judge yX9_judge ∈ xG := ⟨xmG 819 (by decide +kernel) (by decide +kernel), xmG 820 (by decide +kernel) (by decide +kernel)⟩
theorem xm_L_114 : xCW RL 114 yX9_judge cX9_judge 3 (some .int) 0 := ⟨xo_X9_judge, xn_X9_judge, xmG 818 (by decide +kernel) (by decide +kernel), by decide +kernel⟩
theorem xq_J6_265 : Cond.constant RJ6 265 (1431655765) ∈ xG := xmG 506 (by decide +kernel) (by decide +kernel)
theorem xq_J6_266 : Cond.constant RJ6 266 (858993459) ∈ xG := xmG 507 (by decide +kernel) (by decide +kernel)
theorem xq_J6_267 : Cond.constant RJ6 267 (252645135) ∈ xG := xmG 508 (by decide +kernel) (by decide +kernel)
theorem xq_X9_25 : Cond.constant RX9 25 (166464) ∈ xG := xmG 626 (by decide +kernel) (by decide +kernel)
theorem xac1 : Cond.native arraycopyName ∈ xG := xmG 285 (by decide +kernel) (by decide +kernel)
theorem xac2 : Cond.static arraycopyName ∈ xG := xmG 284 (by decide +kernel) (by decide +kernel)
theorem xac3 : Cond.initialized "java/lang/System" ∈ xG := xmG 11 (by decide +kernel) (by decide +kernel)
end
section
def fX8_isSignOrNone (x0 : Int32) (M0 : xM) : Option (Int32) := if x0 < (-1) then (some 0) else (if 999 < x0 then (some 0) else (some 1))
theorem fX8_isSignOrNone_s (x0 : Int32) (M0 : xM) : fX8_isSignOrNone x0 M0 = (if x0 < (-1) then (some 0) else (if 999 < x0 then (some 0) else (some 1))) := rfl
set_option maxHeartbeats 4000000 in
set_option maxRecDepth 100000 in
theorem qX8_isSignOrNone (l : Launch) (w : xT) (x0 : Int32) (M0 : xM) (V : Int32) (hm : fX8_isSignOrNone x0 M0 = some V) : xC l yX8_isSignOrNone (Cond.code yX8_isSignOrNone cX8_isSignOrNone 1 (some .boolean)) { frames := 0, cells := 0, slots := 0, locals := 0 } w [.int x0] M0 (some (.int V)) M0 := by
  refine xC.of (by decide) (Nat.le_of_ble_eq_true rfl) ?_
  intro p e s m args below meth c ls X hP hS hl
  have hl : lv_has ls 1 [(0, .int x0)] := hl
  have X : xX p s m args meth c cX8_isSignOrNone 1 (some .boolean) RX8 w := X
  have hx := X.1
  have hb := X.2.1
  have hown := X.2.2.2.2.2.1
  have hts := X.2.2.2.2.2.2.1
  rw [fX8_isSignOrNone_s] at hm
  refine lv_iload_n hx hb dX8_isSignOrNone_0 rfl (lv_at hl 0 rfl) ?_
  refine lv_iconst (v := (-1)) hx hb dX8_isSignOrNone_1 (by decide) ?_
  refine lv_icmp_lt (tgt := 16) hx hb dX8_isSignOrNone_2 (by decide) (fun c1 => ?_) (fun c1 => ?_)
  · have hm := xift c1 hm
    refine lv_iconst (v := 0) hx hb dX8_isSignOrNone_16 (by decide) ?_
    obtain rfl := Option.some.inj hm
    exact xzret X hP hS rfl dX8_isSignOrNone_17
  · have hm := xiff c1 hm
    refine lv_iload_n hx hb dX8_isSignOrNone_5 rfl (lv_at hl 0 rfl) ?_
    refine lv_sipush (v := 999) hx hb dX8_isSignOrNone_6 (by decide) ?_
    refine lv_icmp_gt (tgt := 16) hx hb dX8_isSignOrNone_9 (by decide) (fun c2 => ?_) (fun c2 => ?_)
    · have hm := xift c2 hm
      refine lv_iconst (v := 0) hx hb dX8_isSignOrNone_16 (by decide) ?_
      obtain rfl := Option.some.inj hm
      exact xzret X hP hS rfl dX8_isSignOrNone_17
    · have hm := xiff c2 hm
      refine lv_iconst (v := 1) hx hb dX8_isSignOrNone_12 (by decide) ?_
      refine lv_goto (tgt := 17) hx hb dX8_isSignOrNone_13 (by decide) ?_
      obtain rfl := Option.some.inj hm
      exact xzret X hP hS rfl dX8_isSignOrNone_17
def fX8_oneIfSign (x0 : Int32) (M0 : xM) : Option (Int32) := if x0 = (-1) then (some 0) else (some 1)
theorem fX8_oneIfSign_s (x0 : Int32) (M0 : xM) : fX8_oneIfSign x0 M0 = (if x0 = (-1) then (some 0) else (some 1)) := rfl
set_option maxHeartbeats 4000000 in
set_option maxRecDepth 100000 in
theorem qX8_oneIfSign (l : Launch) (w : xT) (x0 : Int32) (M0 : xM) (V : Int32) (hm : fX8_oneIfSign x0 M0 = some V) : xC l yX8_oneIfSign (Cond.code yX8_oneIfSign cX8_oneIfSign 1 (some .int)) { frames := 0, cells := 0, slots := 0, locals := 0 } w [.int x0] M0 (some (.int V)) M0 := by
  refine xC.of (by decide) (Nat.le_of_ble_eq_true rfl) ?_
  intro p e s m args below meth c ls X hP hS hl
  have hl : lv_has ls 1 [(0, .int x0)] := hl
  have X : xX p s m args meth c cX8_oneIfSign 1 (some .int) RX8 w := X
  have hx := X.1
  have hb := X.2.1
  have hown := X.2.2.2.2.2.1
  have hts := X.2.2.2.2.2.2.1
  rw [fX8_oneIfSign_s] at hm
  refine lv_iload_n hx hb dX8_oneIfSign_0 rfl (lv_at hl 0 rfl) ?_
  refine lv_iconst (v := (-1)) hx hb dX8_oneIfSign_1 (by decide) ?_
  refine lv_icmp_ne (tgt := 9) hx hb dX8_oneIfSign_2 (by decide) (fun c1 => ?_) (fun c1 => ?_)
  · have hm := xiff c1 hm
    refine lv_iconst (v := 1) hx hb dX8_oneIfSign_9 (by decide) ?_
    obtain rfl := Option.some.inj hm
    exact xiret X hP hS dX8_oneIfSign_10
  · have hm := xift c1 hm
    refine lv_iconst (v := 0) hx hb dX8_oneIfSign_5 (by decide) ?_
    refine lv_goto (tgt := 10) hx hb dX8_oneIfSign_6 (by decide) ?_
    obtain rfl := Option.some.inj hm
    exact xiret X hP hS dX8_oneIfSign_10
def fX8_countSigns (x0 : Int32) (x1 : Int32) (x2 : Int32) (x3 : Int32) (M0 : xM) : Option (Int32) := (fX8_isSignOrNone x0 M0).bind fun v1 => if v1 = 0 then (some (-1)) else ((fX8_isSignOrNone x1 M0).bind fun v3 => if v3 = 0 then (some (-1)) else ((fX8_isSignOrNone x2 M0).bind fun v5 => if v5 = 0 then (some (-1)) else ((fX8_isSignOrNone x3 M0).bind fun v7 => if v7 = 0 then (some (-1)) else ((fX8_oneIfSign x0 M0).bind fun v9 => (fX8_oneIfSign x1 M0).bind fun v10 => (fX8_oneIfSign x2 M0).bind fun v11 => (fX8_oneIfSign x3 M0).bind fun v12 => some (((v9 + v10) + v11) + v12)))))
theorem fX8_countSigns_s (x0 : Int32) (x1 : Int32) (x2 : Int32) (x3 : Int32) (M0 : xM) : fX8_countSigns x0 x1 x2 x3 M0 = ((fX8_isSignOrNone x0 M0).bind fun v1 => if v1 = 0 then (some (-1)) else ((fX8_isSignOrNone x1 M0).bind fun v3 => if v3 = 0 then (some (-1)) else ((fX8_isSignOrNone x2 M0).bind fun v5 => if v5 = 0 then (some (-1)) else ((fX8_isSignOrNone x3 M0).bind fun v7 => if v7 = 0 then (some (-1)) else ((fX8_oneIfSign x0 M0).bind fun v9 => (fX8_oneIfSign x1 M0).bind fun v10 => (fX8_oneIfSign x2 M0).bind fun v11 => (fX8_oneIfSign x3 M0).bind fun v12 => some (((v9 + v10) + v11) + v12)))))) := rfl
set_option maxHeartbeats 4000000 in
set_option maxRecDepth 100000 in
theorem qX8_countSigns (l : Launch) (w : xT) (x0 : Int32) (x1 : Int32) (x2 : Int32) (x3 : Int32) (M0 : xM) (V : Int32) (hm : fX8_countSigns x0 x1 x2 x3 M0 = some V) : xC l yX8_countSigns (Cond.code yX8_countSigns cX8_countSigns 4 (some .int)) { frames := 1, cells := 0, slots := 0, locals := 20 } w [.int x0, .int x1, .int x2, .int x3] M0 (some (.int V)) M0 := by
  refine xC.of (by decide) (Nat.le_of_ble_eq_true rfl) ?_
  intro p e s m args below meth c ls X hP hS hl
  have hl : lv_has ls 4 [(0, .int x0), (1, .int x1), (2, .int x2), (3, .int x3)] := hl
  have X : xX p s m args meth c cX8_countSigns 4 (some .int) RX8 w := X
  have hx := X.1
  have hb := X.2.1
  have hown := X.2.2.2.2.2.1
  have hts := X.2.2.2.2.2.2.1
  rw [fX8_countSigns_s] at hm
  refine lv_iload_n hx hb dX8_countSigns_0 rfl (lv_at hl 0 rfl) ?_
  obtain ⟨v1, hg, hm⟩ := xbnd hm
  refine xcallS xm_X8_184 xt_X8_isSignOrNone X hP hS (qX8_isSignOrNone l w x0 M0 v1 hg) ⟨Nat.le_of_ble_eq_true rfl, Nat.le_of_ble_eq_true rfl⟩ ⟨rfl, rfl⟩ hl.1 rfl (rest := []) rfl (Nat.le_of_ble_eq_true rfl) dX8_countSigns_1 ⟨Nat.zero_le _, Nat.zero_le _⟩ (fun H locs hP hS => ?_)
  refine W.eq (g2 := F0 m 4 ls [.int v1]) rfl ?_
  refine lv_if_eq (tgt := 28) hx hb dX8_countSigns_4 (by decide) (fun c2 => ?_) (fun c2 => ?_)
  · have hm := xift c2 hm
    refine lv_iconst (v := (-1)) hx hb dX8_countSigns_28 (by decide) ?_
    obtain rfl := Option.some.inj hm
    exact xiret X hP hS dX8_countSigns_29
  · have hm := xiff c2 hm
    refine lv_iload_n hx hb dX8_countSigns_7 rfl (lv_at hl 1 rfl) ?_
    obtain ⟨v3, hg, hm⟩ := xbnd hm
    refine xcallS xm_X8_184 xt_X8_isSignOrNone X hP hS (qX8_isSignOrNone l w x1 M0 v3 hg) ⟨Nat.le_of_ble_eq_true rfl, Nat.le_of_ble_eq_true rfl⟩ ⟨rfl, rfl⟩ hl.1 rfl (rest := []) rfl (Nat.le_of_ble_eq_true rfl) dX8_countSigns_8 ⟨Nat.zero_le _, Nat.zero_le _⟩ (fun H locs hP hS => ?_)
    refine W.eq (g2 := F0 m 11 ls [.int v3]) rfl ?_
    refine lv_if_eq (tgt := 28) hx hb dX8_countSigns_11 (by decide) (fun c4 => ?_) (fun c4 => ?_)
    · have hm := xift c4 hm
      refine lv_iconst (v := (-1)) hx hb dX8_countSigns_28 (by decide) ?_
      obtain rfl := Option.some.inj hm
      exact xiret X hP hS dX8_countSigns_29
    · have hm := xiff c4 hm
      refine lv_iload_n hx hb dX8_countSigns_14 rfl (lv_at hl 2 rfl) ?_
      obtain ⟨v5, hg, hm⟩ := xbnd hm
      refine xcallS xm_X8_184 xt_X8_isSignOrNone X hP hS (qX8_isSignOrNone l w x2 M0 v5 hg) ⟨Nat.le_of_ble_eq_true rfl, Nat.le_of_ble_eq_true rfl⟩ ⟨rfl, rfl⟩ hl.1 rfl (rest := []) rfl (Nat.le_of_ble_eq_true rfl) dX8_countSigns_15 ⟨Nat.zero_le _, Nat.zero_le _⟩ (fun H locs hP hS => ?_)
      refine W.eq (g2 := F0 m 18 ls [.int v5]) rfl ?_
      refine lv_if_eq (tgt := 28) hx hb dX8_countSigns_18 (by decide) (fun c6 => ?_) (fun c6 => ?_)
      · have hm := xift c6 hm
        refine lv_iconst (v := (-1)) hx hb dX8_countSigns_28 (by decide) ?_
        obtain rfl := Option.some.inj hm
        exact xiret X hP hS dX8_countSigns_29
      · have hm := xiff c6 hm
        refine lv_iload_n hx hb dX8_countSigns_21 rfl (lv_at hl 3 rfl) ?_
        obtain ⟨v7, hg, hm⟩ := xbnd hm
        refine xcallS xm_X8_184 xt_X8_isSignOrNone X hP hS (qX8_isSignOrNone l w x3 M0 v7 hg) ⟨Nat.le_of_ble_eq_true rfl, Nat.le_of_ble_eq_true rfl⟩ ⟨rfl, rfl⟩ hl.1 rfl (rest := []) rfl (Nat.le_of_ble_eq_true rfl) dX8_countSigns_22 ⟨Nat.zero_le _, Nat.zero_le _⟩ (fun H locs hP hS => ?_)
        refine W.eq (g2 := F0 m 25 ls [.int v7]) rfl ?_
        refine lv_if_ne (tgt := 30) hx hb dX8_countSigns_25 (by decide) (fun c8 => ?_) (fun c8 => ?_)
        · have hm := xiff c8 hm
          refine lv_iload_n hx hb dX8_countSigns_30 rfl (lv_at hl 0 rfl) ?_
          obtain ⟨v9, hg, hm⟩ := xbnd hm
          refine xcallS xm_X8_187 xt_X8_oneIfSign X hP hS (qX8_oneIfSign l w x0 M0 v9 hg) ⟨Nat.le_of_ble_eq_true rfl, Nat.le_of_ble_eq_true rfl⟩ ⟨rfl, rfl⟩ hl.1 rfl (rest := []) rfl (Nat.le_of_ble_eq_true rfl) dX8_countSigns_31 ⟨Nat.zero_le _, Nat.zero_le _⟩ (fun H locs hP hS => ?_)
          refine W.eq (g2 := F0 m 34 ls [.int v9]) rfl ?_
          refine lv_iload_n hx hb dX8_countSigns_34 rfl (lv_at hl 1 rfl) ?_
          obtain ⟨v10, hg, hm⟩ := xbnd hm
          refine xcallS xm_X8_187 xt_X8_oneIfSign X hP hS (qX8_oneIfSign l w x1 M0 v10 hg) ⟨Nat.le_of_ble_eq_true rfl, Nat.le_of_ble_eq_true rfl⟩ ⟨rfl, rfl⟩ hl.1 rfl (rest := [.int v9]) rfl (Nat.le_of_ble_eq_true rfl) dX8_countSigns_35 ⟨Nat.zero_le _, Nat.zero_le _⟩ (fun H locs hP hS => ?_)
          refine W.eq (g2 := F0 m 38 ls [.int v10, .int v9]) rfl ?_
          refine lv_iadd hx hb dX8_countSigns_38 ?_
          refine lv_iload_n hx hb dX8_countSigns_39 rfl (lv_at hl 2 rfl) ?_
          obtain ⟨v11, hg, hm⟩ := xbnd hm
          refine xcallS xm_X8_187 xt_X8_oneIfSign X hP hS (qX8_oneIfSign l w x2 M0 v11 hg) ⟨Nat.le_of_ble_eq_true rfl, Nat.le_of_ble_eq_true rfl⟩ ⟨rfl, rfl⟩ hl.1 rfl (rest := [.int (v9 + v10)]) rfl (Nat.le_of_ble_eq_true rfl) dX8_countSigns_40 ⟨Nat.zero_le _, Nat.zero_le _⟩ (fun H locs hP hS => ?_)
          refine W.eq (g2 := F0 m 43 ls [.int v11, .int (v9 + v10)]) rfl ?_
          refine lv_iadd hx hb dX8_countSigns_43 ?_
          refine lv_iload_n hx hb dX8_countSigns_44 rfl (lv_at hl 3 rfl) ?_
          obtain ⟨v12, hg, hm⟩ := xbnd hm
          refine xcallS xm_X8_187 xt_X8_oneIfSign X hP hS (qX8_oneIfSign l w x3 M0 v12 hg) ⟨Nat.le_of_ble_eq_true rfl, Nat.le_of_ble_eq_true rfl⟩ ⟨rfl, rfl⟩ hl.1 rfl (rest := [.int ((v9 + v10) + v11)]) rfl (Nat.le_of_ble_eq_true rfl) dX8_countSigns_45 ⟨Nat.zero_le _, Nat.zero_le _⟩ (fun H locs hP hS => ?_)
          refine W.eq (g2 := F0 m 48 ls [.int v12, .int ((v9 + v10) + v11)]) rfl ?_
          refine lv_iadd hx hb dX8_countSigns_48 ?_
          obtain rfl := Option.some.inj hm
          exact xiret X hP hS dX8_countSigns_49
        · have hm := xift c8 hm
          refine lv_iconst (v := (-1)) hx hb dX8_countSigns_28 (by decide) ?_
          obtain rfl := Option.some.inj hm
          exact xiret X hP hS dX8_countSigns_29
def fX8_isText (x0 : Int32) (M0 : xM) : Option (Int32) := if x0 < 0 then (some 0) else (if 8 ≤ x0 then (some 0) else (some 1))
theorem fX8_isText_s (x0 : Int32) (M0 : xM) : fX8_isText x0 M0 = (if x0 < 0 then (some 0) else (if 8 ≤ x0 then (some 0) else (some 1))) := rfl
set_option maxHeartbeats 4000000 in
set_option maxRecDepth 100000 in
theorem qX8_isText (l : Launch) (w : xT) (x0 : Int32) (M0 : xM) (V : Int32) (hm : fX8_isText x0 M0 = some V) : xC l yX8_isText (Cond.code yX8_isText cX8_isText 1 (some .boolean)) { frames := 0, cells := 0, slots := 0, locals := 0 } w [.int x0] M0 (some (.int V)) M0 := by
  refine xC.of (by decide) (Nat.le_of_ble_eq_true rfl) ?_
  intro p e s m args below meth c ls X hP hS hl
  have hl : lv_has ls 1 [(0, .int x0)] := hl
  have X : xX p s m args meth c cX8_isText 1 (some .boolean) RX8 w := X
  have hx := X.1
  have hb := X.2.1
  have hown := X.2.2.2.2.2.1
  have hts := X.2.2.2.2.2.2.1
  rw [fX8_isText_s] at hm
  refine lv_iload_n hx hb dX8_isText_0 rfl (lv_at hl 0 rfl) ?_
  refine lv_if_lt (tgt := 14) hx hb dX8_isText_1 (by decide) (fun c1 => ?_) (fun c1 => ?_)
  · have hm := xift c1 hm
    refine lv_iconst (v := 0) hx hb dX8_isText_14 (by decide) ?_
    obtain rfl := Option.some.inj hm
    exact xzret X hP hS rfl dX8_isText_15
  · have hm := xiff c1 hm
    refine lv_iload_n hx hb dX8_isText_4 rfl (lv_at hl 0 rfl) ?_
    refine lv_bipush (v := 8) hx hb dX8_isText_5 (by decide) ?_
    refine lv_icmp_ge (tgt := 14) hx hb dX8_isText_7 (by decide) (fun c2 => ?_) (fun c2 => ?_)
    · have hm := xift c2 hm
      refine lv_iconst (v := 0) hx hb dX8_isText_14 (by decide) ?_
      obtain rfl := Option.some.inj hm
      exact xzret X hP hS rfl dX8_isText_15
    · have hm := xiff c2 hm
      refine lv_iconst (v := 1) hx hb dX8_isText_10 (by decide) ?_
      refine lv_goto (tgt := 15) hx hb dX8_isText_11 (by decide) ?_
      obtain rfl := Option.some.inj hm
      exact xzret X hP hS rfl dX8_isText_15
def fX6_endOf_4  : Nat → Int32 → Int32 → Int32 → xM → Option (Int32)
  | 0 => fun _ _ _ _ => none
  | n + 1 => fun x1 x2 x3 M0 => if x1 < x3 then (some x2) else (if xin x3 8 then xlt (x2 + (M0 3 x3.toNatClampNeg)) fun y3 => fX6_endOf_4 n x1 y3 (x3 + 1) M0 else none)
theorem fX6_endOf_4_s  (n : Nat) (x1 : Int32) (x2 : Int32) (x3 : Int32) (M0 : xM) : fX6_endOf_4  (n + 1) x1 x2 x3 M0 = (if x1 < x3 then (some x2) else (if xin x3 8 then xlt (x2 + (M0 3 x3.toNatClampNeg)) fun y3 => fX6_endOf_4 n x1 y3 (x3 + 1) M0 else none)) := rfl
set_option maxHeartbeats 4000000 in
set_option maxRecDepth 100000 in
theorem kX6_endOf_4 {p : Program} {l : Launch} {e : Env} {s : State} {m : MethodId} {args : Array Value} {below : List Frame} {meth : Method} {c : Code} {w : xT} (X : xX p s m args meth c cX6_endOf 4 (some .int) RX6 w) (V : Int32)  : ∀ (n : Nat) (x1 : Int32) (x2 : Int32) (x3 : Int32) (M0 : xM) (H : Heap) (locs : List Loc) (ls : Array Slot), fX6_endOf_4  n x1 x2 x3 M0 = some V → xP w M0 H → xS w s H locs → lv_has ls 4 [(0, .ref (xa w 1)), (1, .int x1), (2, .int x2), (3, .int x3)] → W p l e { frames := 0, cells := 0, slots := 0, locals := 0 } s m args below meth c H locs 0 0 (xQ w (some (.int V)) M0 below args s) (F0 m 4 ls []) := by
  have hx := X.1
  have hb := X.2.1
  have hown := X.2.2.2.2.2.1
  have hts := X.2.2.2.2.2.2.1
  intro n
  induction n with
  | zero => intro x1 x2 x3 M0 H locs ls hm hP hS hl; exact xnon hm
  | succ n ih =>
    intro x1 x2 x3 M0 H locs ls hm hP hS hl
    rw [fX6_endOf_4_s] at hm
    refine lv_iload_n hx hb dX6_endOf_4 rfl (lv_at hl 3 rfl) ?_
    refine lv_iload_n hx hb dX6_endOf_5 rfl (lv_at hl 1 rfl) ?_
    refine lv_icmp_gt (tgt := 24) hx hb dX6_endOf_6 (by decide) (fun c1 => ?_) (fun c1 => ?_)
    · have hm := xift c1 hm
      refine lv_iload_n hx hb dX6_endOf_24 rfl (lv_at hl 2 rfl) ?_
      obtain rfl := Option.some.inj hm
      exact xiret X hP hS dX6_endOf_25
    · have hm := xiff c1 hm
      refine lv_iload_n hx hb dX6_endOf_9 rfl (lv_at hl 2 rfl) ?_
      refine lv_aload_n hx hb dX6_endOf_10 rfl (lv_at hl 0 rfl) ?_
      refine xget xcX6 X hP 1 1 xy1 (by decide) xf_X6_15 rfl dX6_endOf_11 ?_
      refine lv_iload_n hx hb dX6_endOf_14 rfl (lv_at hl 3 rfl) ?_
      obtain ⟨hi2, hm⟩ := xifn hm
      refine xiald X hP 3 xy3 hi2 dX6_endOf_15 ?_
      refine lv_iadd hx hb dX6_endOf_16 ?_
      refine lv_topi (fun y3 ey3 => ?_)
      have hm := xltE hm ey3
      refine lv_istore_n (lv' := [(2, .int y3), (0, .ref (xa w 1)), (1, .int x1), (3, .int x3)]) hx hb dX6_endOf_17 rfl hl (by decide) rfl (fun ls hl => ?_)
      refine lv_iinc (v := x3 + 1) (lv' := [(3, .int (x3 + 1)), (2, .int y3), (0, .ref (xa w 1)), (1, .int x1)]) hx hb dX6_endOf_18 hl (k := 3) rfl rfl (by decide) rfl (fun ls hl => ?_)
      refine lv_goto (tgt := 4) hx hb dX6_endOf_21 (by decide) ?_
      exact ih x1 y3 (x3 + 1) M0 _ _ _ hm hP hS (lv_sub hl [2, 3, 1, 0] rfl)
def fX6_endOf (x1 : Int32) (M0 : xM) : Option (Int32) := fX6_endOf_4 4096 x1 0 0 M0
theorem fX6_endOf_s (x1 : Int32) (M0 : xM) : fX6_endOf x1 M0 = (fX6_endOf_4 4096 x1 0 0 M0) := rfl
set_option maxHeartbeats 4000000 in
set_option maxRecDepth 100000 in
theorem qX6_endOf (l : Launch) (w : xT) (x1 : Int32) (M0 : xM) (V : Int32) (hm : fX6_endOf x1 M0 = some V) : xC l yX6_endOf (Cond.code yX6_endOf cX6_endOf 4 (some .int)) { frames := 0, cells := 0, slots := 0, locals := 0 } w [.ref (xa w 1), .int x1] M0 (some (.int V)) M0 := by
  refine xC.of (by decide) (Nat.le_of_ble_eq_true rfl) ?_
  intro p e s m args below meth c ls X hP hS hl
  have hl : lv_has ls 4 [(0, .ref (xa w 1)), (1, .int x1)] := hl
  have X : xX p s m args meth c cX6_endOf 4 (some .int) RX6 w := X
  have hx := X.1
  have hb := X.2.1
  have hown := X.2.2.2.2.2.1
  have hts := X.2.2.2.2.2.2.1
  rw [fX6_endOf_s] at hm
  refine lv_iconst (v := 0) hx hb dX6_endOf_0 (by decide) ?_
  refine lv_istore_n (lv' := [(2, .int 0), (0, .ref (xa w 1)), (1, .int x1)]) hx hb dX6_endOf_1 rfl hl (by decide) rfl (fun ls hl => ?_)
  refine lv_iconst (v := 0) hx hb dX6_endOf_2 (by decide) ?_
  refine lv_istore_n (lv' := [(3, .int 0), (2, .int 0), (0, .ref (xa w 1)), (1, .int x1)]) hx hb dX6_endOf_3 rfl hl (by decide) rfl (fun ls hl => ?_)
  exact kX6_endOf_4 X V  4096 x1 0 0 M0 _ _ _ hm hP hS (lv_sub hl [2, 3, 1, 0] rfl)
def fX6_append (x1 : Int32) (x2 : Int32) (M : xM) : Option (xM) := if x2 = (-1) then (some M) else (if (M 1 2) < 400 then ((fX6_endOf x1 M).bind fun v3 => if xcin v3 (v3 + 1) ((M 1 2) - v3) 400 400 then xlt (xcp M 2 2 v3 (v3 + 1) ((M 1 2) - v3)) fun M5 => if xin v3 400 then xlt (xs1 M5 2 v3.toNatClampNeg x2) fun M7 => if xin x1 8 then if xin x1 8 then xlt (xs1 M7 3 x1.toNatClampNeg ((M7 3 x1.toNatClampNeg) + 1)) fun M10 => xlt (xs1 M10 1 2 ((M10 1 2) + 1)) fun M11 => some M11 else none else none else none else none) else (some M))
theorem fX6_append_s (x1 : Int32) (x2 : Int32) (M : xM) : fX6_append x1 x2 M = (if x2 = (-1) then (some M) else (if (M 1 2) < 400 then ((fX6_endOf x1 M).bind fun v3 => if xcin v3 (v3 + 1) ((M 1 2) - v3) 400 400 then xlt (xcp M 2 2 v3 (v3 + 1) ((M 1 2) - v3)) fun M5 => if xin v3 400 then xlt (xs1 M5 2 v3.toNatClampNeg x2) fun M7 => if xin x1 8 then if xin x1 8 then xlt (xs1 M7 3 x1.toNatClampNeg ((M7 3 x1.toNatClampNeg) + 1)) fun M10 => xlt (xs1 M10 1 2 ((M10 1 2) + 1)) fun M11 => some M11 else none else none else none else none) else (some M))) := rfl
set_option maxHeartbeats 4000000 in
set_option maxRecDepth 100000 in
theorem qX6_append (l : Launch) (w : xT) (x1 : Int32) (x2 : Int32) (M : xM) (V : xM) (hm : fX6_append x1 x2 M = some V) : xC l yX6_append (Cond.code yX6_append cX6_append 4 none) { frames := 1, cells := 0, slots := 0, locals := 40 } w [.ref (xa w 1), .int x1, .int x2] M none V := by
  refine xC.of (by decide) (Nat.le_of_ble_eq_true rfl) ?_
  intro p e s m args below meth c ls X hP hS hl
  have hl : lv_has ls 4 [(0, .ref (xa w 1)), (1, .int x1), (2, .int x2)] := hl
  have X : xX p s m args meth c cX6_append 4 none RX6 w := X
  have hx := X.1
  have hb := X.2.1
  have hown := X.2.2.2.2.2.1
  have hts := X.2.2.2.2.2.2.1
  rw [fX6_append_s] at hm
  refine lv_iload_n hx hb dX6_append_0 rfl (lv_at hl 2 rfl) ?_
  refine lv_iconst (v := (-1)) hx hb dX6_append_1 (by decide) ?_
  refine lv_icmp_eq (tgt := 15) hx hb dX6_append_2 (by decide) (fun c1 => ?_) (fun c1 => ?_)
  · have hm := xift c1 hm
    obtain rfl := Option.some.inj hm
    exact xvret X hP hS dX6_append_15
  · have hm := xiff c1 hm
    refine lv_aload_n hx hb dX6_append_5 rfl (lv_at hl 0 rfl) ?_
    refine xgeti xcX6 X hP 1 2 xy1 (by decide) xf_X6_18 rfl dX6_append_6 ?_
    refine lv_sipush (v := 400) hx hb dX6_append_9 (by decide) ?_
    refine lv_icmp_lt (tgt := 16) hx hb dX6_append_12 (by decide) (fun c2 => ?_) (fun c2 => ?_)
    · have hm := xift c2 hm
      refine lv_aload_n hx hb dX6_append_16 rfl (lv_at hl 0 rfl) ?_
      refine lv_iload_n hx hb dX6_append_17 rfl (lv_at hl 1 rfl) ?_
      obtain ⟨v3, hg, hm⟩ := xbnd hm
      refine xcallV xm_X6_22 xt_X6_endOf X hP hS (qX6_endOf l w x1 M v3 hg) xy1 rfl ⟨Nat.le_of_ble_eq_true rfl, Nat.le_of_ble_eq_true rfl⟩ ⟨rfl, rfl⟩ hl.1 rfl (rest := []) rfl (Nat.le_of_ble_eq_true rfl) dX6_append_18 ⟨Nat.zero_le _, Nat.zero_le _⟩ (fun H locs hP hS => ?_)
      refine W.eq (g2 := F0 m 21 ls [.int v3]) rfl ?_
      refine lv_istore_n (lv' := [(3, .int v3), (0, .ref (xa w 1)), (1, .int x1), (2, .int x2)]) hx hb dX6_append_21 rfl hl (by decide) rfl (fun ls hl => ?_)
      refine lv_aload_n hx hb dX6_append_22 rfl (lv_at hl 1 rfl) ?_
      refine xget xcX6 X hP 1 0 xy1 (by decide) xf_X6_9 rfl dX6_append_23 ?_
      refine lv_iload_n hx hb dX6_append_26 rfl (lv_at hl 0 rfl) ?_
      refine lv_aload_n hx hb dX6_append_27 rfl (lv_at hl 1 rfl) ?_
      refine xget xcX6 X hP 1 0 xy1 (by decide) xf_X6_9 rfl dX6_append_28 ?_
      refine lv_iload_n hx hb dX6_append_31 rfl (lv_at hl 0 rfl) ?_
      refine lv_iconst (v := 1) hx hb dX6_append_32 (by decide) ?_
      refine lv_iadd hx hb dX6_append_33 ?_
      refine lv_aload_n hx hb dX6_append_34 rfl (lv_at hl 1 rfl) ?_
      refine xgeti xcX6 X hP 1 2 xy1 (by decide) xf_X6_18 rfl dX6_append_35 ?_
      refine lv_iload_n hx hb dX6_append_38 rfl (lv_at hl 0 rfl) ?_
      refine lv_isub hx hb dX6_append_39 ?_
      obtain ⟨hi4, hm⟩ := xifn hm
      refine xcopy xm_X6_26 xac1 xac2 xac3 X hP hS 2 2 xy2 xy2 hi4 hl.1 (by decide) (by decide) dX6_append_40 (fun M5 H locs eM5 hP hS => ?_)
      have hm := xltE hm eM5
      refine lv_aload_n hx hb dX6_append_43 rfl (lv_at hl 1 rfl) ?_
      refine xget xcX6 X hP 1 0 xy1 (by decide) xf_X6_9 rfl dX6_append_44 ?_
      refine lv_iload_n hx hb dX6_append_47 rfl (lv_at hl 0 rfl) ?_
      refine lv_iload_n hx hb dX6_append_48 rfl (lv_at hl 3 rfl) ?_
      obtain ⟨hi6, hm⟩ := xifn hm
      refine xiast X hP hS 2 xy2 hi6 dX6_append_49 (fun M7 H locs eM7 hP hS => ?_)
      have hm := xltE hm eM7
      refine lv_aload_n hx hb dX6_append_50 rfl (lv_at hl 1 rfl) ?_
      refine xget xcX6 X hP 1 1 xy1 (by decide) xf_X6_15 rfl dX6_append_51 ?_
      refine lv_iload_n hx hb dX6_append_54 rfl (lv_at hl 2 rfl) ?_
      refine lv_dup2_11 hx hb dX6_append_55 rfl rfl ?_
      obtain ⟨hi8, hm⟩ := xifn hm
      refine xiald X hP 3 xy3 hi8 dX6_append_56 ?_
      refine lv_iconst (v := 1) hx hb dX6_append_57 (by decide) ?_
      refine lv_iadd hx hb dX6_append_58 ?_
      obtain ⟨hi9, hm⟩ := xifn hm
      refine xiast X hP hS 3 xy3 hi9 dX6_append_59 (fun M10 H locs eM10 hP hS => ?_)
      have hm := xltE hm eM10
      refine lv_aload_n hx hb dX6_append_60 rfl (lv_at hl 1 rfl) ?_
      refine lv_dup hx hb dX6_append_61 rfl ?_
      refine xgeti xcX6 X hP 1 2 xy1 (by decide) xf_X6_18 rfl dX6_append_62 ?_
      refine lv_iconst (v := 1) hx hb dX6_append_65 (by decide) ?_
      refine lv_iadd hx hb dX6_append_66 ?_
      refine xputi xcX6 X hP hS 1 2 xy1 (by decide) xf_X6_18 rfl (tyX6_ok 2 (by decide)) rfl dX6_append_67 (fun M11 H locs eM11 hP hS => ?_)
      have hm := xltE hm eM11
      obtain rfl := Option.some.inj hm
      exact xvret X hP hS dX6_append_70
    · have hm := xiff c2 hm
      obtain rfl := Option.some.inj hm
      exact xvret X hP hS dX6_append_15
def fX8_add (x1 : Int32) (x2 : Int32) (x3 : Int32) (x4 : Int32) (x5 : Int32) (M : xM) : Option (Int32 × xM) := (fX8_countSigns x2 x3 x4 x5 M).bind fun v1 => (fX8_isText x1 M).bind fun v2 => if v2 = 0 then (some ((-1), M)) else (if v1 = (-1) then (some ((-1), M)) else (if ((M 1 2) + v1) ≤ 400 then ((fX6_append x1 x2 M).bind fun v6 => (fX6_append x1 x3 v6).bind fun v7 => (fX6_append x1 x4 v7).bind fun v8 => (fX6_append x1 x5 v8).bind fun v9 => if xin x1 8 then some (v9 3 x1.toNatClampNeg, v9) else none) else (some ((-1), M))))
theorem fX8_add_s (x1 : Int32) (x2 : Int32) (x3 : Int32) (x4 : Int32) (x5 : Int32) (M : xM) : fX8_add x1 x2 x3 x4 x5 M = ((fX8_countSigns x2 x3 x4 x5 M).bind fun v1 => (fX8_isText x1 M).bind fun v2 => if v2 = 0 then (some ((-1), M)) else (if v1 = (-1) then (some ((-1), M)) else (if ((M 1 2) + v1) ≤ 400 then ((fX6_append x1 x2 M).bind fun v6 => (fX6_append x1 x3 v6).bind fun v7 => (fX6_append x1 x4 v7).bind fun v8 => (fX6_append x1 x5 v8).bind fun v9 => if xin x1 8 then some (v9 3 x1.toNatClampNeg, v9) else none) else (some ((-1), M))))) := rfl
set_option maxHeartbeats 4000000 in
set_option maxRecDepth 100000 in
theorem qX8_add (l : Launch) (w : xT) (x1 : Int32) (x2 : Int32) (x3 : Int32) (x4 : Int32) (x5 : Int32) (M : xM) (V : Int32 × xM) (hm : fX8_add x1 x2 x3 x4 x5 M = some V) : xC l yX8_add (Cond.code yX8_add cX8_add 7 (some .int)) { frames := 2, cells := 0, slots := 0, locals := 63 } w [.ref (xa w 0), .int x1, .int x2, .int x3, .int x4, .int x5] M (some (.int V.1)) V.2 := by
  refine xC.of (by decide) (Nat.le_of_ble_eq_true rfl) ?_
  intro p e s m args below meth c ls X hP hS hl
  have hl : lv_has ls 7 [(0, .ref (xa w 0)), (1, .int x1), (2, .int x2), (3, .int x3), (4, .int x4), (5, .int x5)] := hl
  have X : xX p s m args meth c cX8_add 7 (some .int) RX8 w := X
  have hx := X.1
  have hb := X.2.1
  have hown := X.2.2.2.2.2.1
  have hts := X.2.2.2.2.2.2.1
  rw [fX8_add_s] at hm
  refine lv_iload_n hx hb dX8_add_0 rfl (lv_at hl 2 rfl) ?_
  refine lv_iload_n hx hb dX8_add_1 rfl (lv_at hl 3 rfl) ?_
  refine lv_iload hx hb dX8_add_2 (lv_at hl 4 rfl) ?_
  refine lv_iload hx hb dX8_add_4 (lv_at hl 5 rfl) ?_
  obtain ⟨v1, hg, hm⟩ := xbnd hm
  refine xcallS xm_X8_62 xt_X8_countSigns X hP hS (qX8_countSigns l w x2 x3 x4 x5 M v1 hg) ⟨Nat.le_of_ble_eq_true rfl, Nat.le_of_ble_eq_true rfl⟩ ⟨rfl, rfl⟩ hl.1 rfl (rest := []) rfl (Nat.le_of_ble_eq_true rfl) dX8_add_6 ⟨Nat.zero_le _, Nat.zero_le _⟩ (fun H locs hP hS => ?_)
  refine W.eq (g2 := F0 m 9 ls [.int v1]) rfl ?_
  refine lv_istore (lv' := [(6, .int v1), (0, .ref (xa w 0)), (1, .int x1), (2, .int x2), (3, .int x3), (4, .int x4), (5, .int x5)]) hx hb dX8_add_9 hl (by decide) rfl (fun ls hl => ?_)
  refine lv_iload_n hx hb dX8_add_11 rfl (lv_at hl 2 rfl) ?_
  obtain ⟨v2, hg, hm⟩ := xbnd hm
  refine xcallS xm_X8_66 xt_X8_isText X hP hS (qX8_isText l w x1 M v2 hg) ⟨Nat.le_of_ble_eq_true rfl, Nat.le_of_ble_eq_true rfl⟩ ⟨rfl, rfl⟩ hl.1 rfl (rest := []) rfl (Nat.le_of_ble_eq_true rfl) dX8_add_12 ⟨Nat.zero_le _, Nat.zero_le _⟩ (fun H locs hP hS => ?_)
  refine W.eq (g2 := F0 m 15 ls [.int v2]) rfl ?_
  refine lv_if_eq (tgt := 40) hx hb dX8_add_15 (by decide) (fun c3 => ?_) (fun c3 => ?_)
  · have hm := xift c3 hm
    refine lv_iconst (v := (-1)) hx hb dX8_add_40 (by decide) ?_
    obtain rfl := Option.some.inj hm
    exact xiret X hP hS dX8_add_41
  · have hm := xiff c3 hm
    refine lv_iload hx hb dX8_add_18 (lv_at hl 0 rfl) ?_
    refine lv_iconst (v := (-1)) hx hb dX8_add_20 (by decide) ?_
    refine lv_icmp_eq (tgt := 40) hx hb dX8_add_21 (by decide) (fun c4 => ?_) (fun c4 => ?_)
    · have hm := xift c4 hm
      refine lv_iconst (v := (-1)) hx hb dX8_add_40 (by decide) ?_
      obtain rfl := Option.some.inj hm
      exact xiret X hP hS dX8_add_41
    · have hm := xiff c4 hm
      refine lv_aload_n hx hb dX8_add_24 rfl (lv_at hl 1 rfl) ?_
      refine xget xcX8 X hP 0 0 xy0 (by decide) xf_X8_12 rfl dX8_add_25 ?_
      refine xgeti xcX6 X hP 1 2 xy1 (by decide) xf_X8_70 rfl dX8_add_28 ?_
      refine lv_iload hx hb dX8_add_31 (lv_at hl 0 rfl) ?_
      refine lv_iadd hx hb dX8_add_33 ?_
      refine lv_sipush (v := 400) hx hb dX8_add_34 (by decide) ?_
      refine lv_icmp_le (tgt := 42) hx hb dX8_add_37 (by decide) (fun c5 => ?_) (fun c5 => ?_)
      · have hm := xift c5 hm
        refine lv_aload_n hx hb dX8_add_42 rfl (lv_at hl 1 rfl) ?_
        refine xget xcX8 X hP 0 0 xy0 (by decide) xf_X8_12 rfl dX8_add_43 ?_
        refine lv_iload_n hx hb dX8_add_46 rfl (lv_at hl 2 rfl) ?_
        refine lv_iload_n hx hb dX8_add_47 rfl (lv_at hl 3 rfl) ?_
        obtain ⟨v6, hg, hm⟩ := xbnd hm
        refine xcallV xm_X8_74 xt_X6_append X hP hS (qX6_append l w x1 x2 M v6 hg) xy1 rfl ⟨Nat.le_of_ble_eq_true rfl, Nat.le_of_ble_eq_true rfl⟩ ⟨rfl, rfl⟩ hl.1 rfl (rest := []) rfl (Nat.le_of_ble_eq_true rfl) dX8_add_48 ⟨Nat.zero_le _, Nat.zero_le _⟩ (fun H locs hP hS => ?_)
        refine W.eq (g2 := F0 m 51 ls []) rfl ?_
        refine lv_aload_n hx hb dX8_add_51 rfl (lv_at hl 1 rfl) ?_
        refine xget xcX8 X hP 0 0 xy0 (by decide) xf_X8_12 rfl dX8_add_52 ?_
        refine lv_iload_n hx hb dX8_add_55 rfl (lv_at hl 2 rfl) ?_
        refine lv_iload_n hx hb dX8_add_56 rfl (lv_at hl 4 rfl) ?_
        obtain ⟨v7, hg, hm⟩ := xbnd hm
        refine xcallV xm_X8_74 xt_X6_append X hP hS (qX6_append l w x1 x3 v6 v7 hg) xy1 rfl ⟨Nat.le_of_ble_eq_true rfl, Nat.le_of_ble_eq_true rfl⟩ ⟨rfl, rfl⟩ hl.1 rfl (rest := []) rfl (Nat.le_of_ble_eq_true rfl) dX8_add_57 ⟨Nat.zero_le _, Nat.zero_le _⟩ (fun H locs hP hS => ?_)
        refine W.eq (g2 := F0 m 60 ls []) rfl ?_
        refine lv_aload_n hx hb dX8_add_60 rfl (lv_at hl 1 rfl) ?_
        refine xget xcX8 X hP 0 0 xy0 (by decide) xf_X8_12 rfl dX8_add_61 ?_
        refine lv_iload_n hx hb dX8_add_64 rfl (lv_at hl 2 rfl) ?_
        refine lv_iload hx hb dX8_add_65 (lv_at hl 5 rfl) ?_
        obtain ⟨v8, hg, hm⟩ := xbnd hm
        refine xcallV xm_X8_74 xt_X6_append X hP hS (qX6_append l w x1 x4 v7 v8 hg) xy1 rfl ⟨Nat.le_of_ble_eq_true rfl, Nat.le_of_ble_eq_true rfl⟩ ⟨rfl, rfl⟩ hl.1 rfl (rest := []) rfl (Nat.le_of_ble_eq_true rfl) dX8_add_67 ⟨Nat.zero_le _, Nat.zero_le _⟩ (fun H locs hP hS => ?_)
        refine W.eq (g2 := F0 m 70 ls []) rfl ?_
        refine lv_aload_n hx hb dX8_add_70 rfl (lv_at hl 1 rfl) ?_
        refine xget xcX8 X hP 0 0 xy0 (by decide) xf_X8_12 rfl dX8_add_71 ?_
        refine lv_iload_n hx hb dX8_add_74 rfl (lv_at hl 2 rfl) ?_
        refine lv_iload hx hb dX8_add_75 (lv_at hl 6 rfl) ?_
        obtain ⟨v9, hg, hm⟩ := xbnd hm
        refine xcallV xm_X8_74 xt_X6_append X hP hS (qX6_append l w x1 x5 v8 v9 hg) xy1 rfl ⟨Nat.le_of_ble_eq_true rfl, Nat.le_of_ble_eq_true rfl⟩ ⟨rfl, rfl⟩ hl.1 rfl (rest := []) rfl (Nat.le_of_ble_eq_true rfl) dX8_add_77 ⟨Nat.zero_le _, Nat.zero_le _⟩ (fun H locs hP hS => ?_)
        refine W.eq (g2 := F0 m 80 ls []) rfl ?_
        refine lv_aload_n hx hb dX8_add_80 rfl (lv_at hl 1 rfl) ?_
        refine xget xcX8 X hP 0 0 xy0 (by decide) xf_X8_12 rfl dX8_add_81 ?_
        refine xget xcX6 X hP 1 1 xy1 (by decide) xf_X8_78 rfl dX8_add_84 ?_
        refine lv_iload_n hx hb dX8_add_87 rfl (lv_at hl 2 rfl) ?_
        obtain ⟨hi10, hm⟩ := xifn hm
        refine xiald X hP 3 xy3 hi10 dX8_add_88 ?_
        obtain rfl := Option.some.inj hm
        exact xiret X hP hS dX8_add_89
      · have hm := xiff c5 hm
        refine lv_iconst (v := (-1)) hx hb dX8_add_40 (by decide) ?_
        obtain rfl := Option.some.inj hm
        exact xiret X hP hS dX8_add_41
def fX9_isText (x0 : Int32) (M0 : xM) : Option (Int32) := if x0 < 0 then (some 0) else (if 8 ≤ x0 then (some 0) else (some 1))
theorem fX9_isText_s (x0 : Int32) (M0 : xM) : fX9_isText x0 M0 = (if x0 < 0 then (some 0) else (if 8 ≤ x0 then (some 0) else (some 1))) := rfl
set_option maxHeartbeats 4000000 in
set_option maxRecDepth 100000 in
theorem qX9_isText (l : Launch) (w : xT) (x0 : Int32) (M0 : xM) (V : Int32) (hm : fX9_isText x0 M0 = some V) : xC l yX9_isText (Cond.code yX9_isText cX9_isText 1 (some .boolean)) { frames := 0, cells := 0, slots := 0, locals := 0 } w [.int x0] M0 (some (.int V)) M0 := by
  refine xC.of (by decide) (Nat.le_of_ble_eq_true rfl) ?_
  intro p e s m args below meth c ls X hP hS hl
  have hl : lv_has ls 1 [(0, .int x0)] := hl
  have X : xX p s m args meth c cX9_isText 1 (some .boolean) RX9 w := X
  have hx := X.1
  have hb := X.2.1
  have hown := X.2.2.2.2.2.1
  have hts := X.2.2.2.2.2.2.1
  rw [fX9_isText_s] at hm
  refine lv_iload_n hx hb dX9_isText_0 rfl (lv_at hl 0 rfl) ?_
  refine lv_if_lt (tgt := 14) hx hb dX9_isText_1 (by decide) (fun c1 => ?_) (fun c1 => ?_)
  · have hm := xift c1 hm
    refine lv_iconst (v := 0) hx hb dX9_isText_14 (by decide) ?_
    obtain rfl := Option.some.inj hm
    exact xzret X hP hS rfl dX9_isText_15
  · have hm := xiff c1 hm
    refine lv_iload_n hx hb dX9_isText_4 rfl (lv_at hl 0 rfl) ?_
    refine lv_bipush (v := 8) hx hb dX9_isText_5 (by decide) ?_
    refine lv_icmp_ge (tgt := 14) hx hb dX9_isText_7 (by decide) (fun c2 => ?_) (fun c2 => ?_)
    · have hm := xift c2 hm
      refine lv_iconst (v := 0) hx hb dX9_isText_14 (by decide) ?_
      obtain rfl := Option.some.inj hm
      exact xzret X hP hS rfl dX9_isText_15
    · have hm := xiff c2 hm
      refine lv_iconst (v := 1) hx hb dX9_isText_10 (by decide) ?_
      refine lv_goto (tgt := 15) hx hb dX9_isText_11 (by decide) ?_
      obtain rfl := Option.some.inj hm
      exact xzret X hP hS rfl dX9_isText_15
def fX9_isGiven (x0 : Int32) (M0 : xM) : Option (Int32) := if x0 < (-1) then (some 0) else (if 1000 ≤ x0 then (some 0) else (some 1))
theorem fX9_isGiven_s (x0 : Int32) (M0 : xM) : fX9_isGiven x0 M0 = (if x0 < (-1) then (some 0) else (if 1000 ≤ x0 then (some 0) else (some 1))) := rfl
set_option maxHeartbeats 4000000 in
set_option maxRecDepth 100000 in
theorem qX9_isGiven (l : Launch) (w : xT) (x0 : Int32) (M0 : xM) (V : Int32) (hm : fX9_isGiven x0 M0 = some V) : xC l yX9_isGiven (Cond.code yX9_isGiven cX9_isGiven 1 (some .boolean)) { frames := 0, cells := 0, slots := 0, locals := 0 } w [.int x0] M0 (some (.int V)) M0 := by
  refine xC.of (by decide) (Nat.le_of_ble_eq_true rfl) ?_
  intro p e s m args below meth c ls X hP hS hl
  have hl : lv_has ls 1 [(0, .int x0)] := hl
  have X : xX p s m args meth c cX9_isGiven 1 (some .boolean) RX9 w := X
  have hx := X.1
  have hb := X.2.1
  have hown := X.2.2.2.2.2.1
  have hts := X.2.2.2.2.2.2.1
  rw [fX9_isGiven_s] at hm
  refine lv_iload_n hx hb dX9_isGiven_0 rfl (lv_at hl 0 rfl) ?_
  refine lv_iconst (v := (-1)) hx hb dX9_isGiven_1 (by decide) ?_
  refine lv_icmp_lt (tgt := 16) hx hb dX9_isGiven_2 (by decide) (fun c1 => ?_) (fun c1 => ?_)
  · have hm := xift c1 hm
    refine lv_iconst (v := 0) hx hb dX9_isGiven_16 (by decide) ?_
    obtain rfl := Option.some.inj hm
    exact xzret X hP hS rfl dX9_isGiven_17
  · have hm := xiff c1 hm
    refine lv_iload_n hx hb dX9_isGiven_5 rfl (lv_at hl 0 rfl) ?_
    refine lv_sipush (v := 1000) hx hb dX9_isGiven_6 (by decide) ?_
    refine lv_icmp_ge (tgt := 16) hx hb dX9_isGiven_9 (by decide) (fun c2 => ?_) (fun c2 => ?_)
    · have hm := xift c2 hm
      refine lv_iconst (v := 0) hx hb dX9_isGiven_16 (by decide) ?_
      obtain rfl := Option.some.inj hm
      exact xzret X hP hS rfl dX9_isGiven_17
    · have hm := xiff c2 hm
      refine lv_iconst (v := 1) hx hb dX9_isGiven_12 (by decide) ?_
      refine lv_goto (tgt := 17) hx hb dX9_isGiven_13 (by decide) ?_
      obtain rfl := Option.some.inj hm
      exact xzret X hP hS rfl dX9_isGiven_17
def fX9_given_38  (s0 : Int32) (s1 : Int32) (M0 : xM) : Option (Int32) := some (s0 + s1)
theorem fX9_given_38_s  (s0 : Int32) (s1 : Int32) (M0 : xM) : fX9_given_38  s0 s1 M0 = (some (s0 + s1)) := rfl
set_option maxHeartbeats 4000000 in
set_option maxRecDepth 100000 in
theorem kX9_given_38 {p : Program} {l : Launch} {e : Env} {s : State} {m : MethodId} {args : Array Value} {below : List Frame} {meth : Method} {c : Code} {w : xT} (X : xX p s m args meth c cX9_given 4 (some .int) RX9 w) (V : Int32)  : ∀ (s0 : Int32) (s1 : Int32) (M0 : xM) (H : Heap) (locs : List Loc) (ls : Array Slot), fX9_given_38  s0 s1 M0 = some V → xP w M0 H → xS w s H locs → lv_has ls 4 [] → W p l e { frames := 0, cells := 0, slots := 0, locals := 0 } s m args below meth c H locs 0 0 (xQ w (some (.int V)) M0 below args s) (F0 m 38 ls [.int s1, .int s0]) := by
  have hx := X.1
  have hb := X.2.1
  have hown := X.2.2.2.2.2.1
  have hts := X.2.2.2.2.2.2.1
  intro s0 s1 M0 H locs ls hm hP hS hl
  rw [fX9_given_38_s] at hm
  refine lv_iadd hx hb dX9_given_38 ?_
  obtain rfl := Option.some.inj hm
  exact xiret X hP hS dX9_given_39
def fX9_given_28  (x3 : Int32) (s0 : Int32) (s1 : Int32) (M0 : xM) : Option (Int32) := if 0 ≤ x3 then (fX9_given_38 (s0 + s1) 1 M0) else (fX9_given_38 (s0 + s1) 0 M0)
theorem fX9_given_28_s  (x3 : Int32) (s0 : Int32) (s1 : Int32) (M0 : xM) : fX9_given_28  x3 s0 s1 M0 = (if 0 ≤ x3 then (fX9_given_38 (s0 + s1) 1 M0) else (fX9_given_38 (s0 + s1) 0 M0)) := rfl
set_option maxHeartbeats 4000000 in
set_option maxRecDepth 100000 in
theorem kX9_given_28 {p : Program} {l : Launch} {e : Env} {s : State} {m : MethodId} {args : Array Value} {below : List Frame} {meth : Method} {c : Code} {w : xT} (X : xX p s m args meth c cX9_given 4 (some .int) RX9 w) (V : Int32)  : ∀ (x3 : Int32) (s0 : Int32) (s1 : Int32) (M0 : xM) (H : Heap) (locs : List Loc) (ls : Array Slot), fX9_given_28  x3 s0 s1 M0 = some V → xP w M0 H → xS w s H locs → lv_has ls 4 [(3, .int x3)] → W p l e { frames := 0, cells := 0, slots := 0, locals := 0 } s m args below meth c H locs 0 0 (xQ w (some (.int V)) M0 below args s) (F0 m 28 ls [.int s1, .int s0]) := by
  have hx := X.1
  have hb := X.2.1
  have hown := X.2.2.2.2.2.1
  have hts := X.2.2.2.2.2.2.1
  intro x3 s0 s1 M0 H locs ls hm hP hS hl
  rw [fX9_given_28_s] at hm
  refine lv_iadd hx hb dX9_given_28 ?_
  refine lv_iload_n hx hb dX9_given_29 rfl (lv_at hl 0 rfl) ?_
  refine lv_if_ge (tgt := 37) hx hb dX9_given_30 (by decide) (fun c1 => ?_) (fun c1 => ?_)
  · have hm := xift c1 hm
    refine lv_iconst (v := 1) hx hb dX9_given_37 (by decide) ?_
    exact kX9_given_38 X V  (s0 + s1) 1 M0 _ _ _ hm hP hS (lv_sub hl [] rfl)
  · have hm := xiff c1 hm
    refine lv_iconst (v := 0) hx hb dX9_given_33 (by decide) ?_
    refine lv_goto (tgt := 38) hx hb dX9_given_34 (by decide) ?_
    exact kX9_given_38 X V  (s0 + s1) 0 M0 _ _ _ hm hP hS (lv_sub hl [] rfl)
def fX9_given_18  (x2 : Int32) (x3 : Int32) (s0 : Int32) (s1 : Int32) (M0 : xM) : Option (Int32) := if 0 ≤ x2 then (fX9_given_28 x3 (s0 + s1) 1 M0) else (fX9_given_28 x3 (s0 + s1) 0 M0)
theorem fX9_given_18_s  (x2 : Int32) (x3 : Int32) (s0 : Int32) (s1 : Int32) (M0 : xM) : fX9_given_18  x2 x3 s0 s1 M0 = (if 0 ≤ x2 then (fX9_given_28 x3 (s0 + s1) 1 M0) else (fX9_given_28 x3 (s0 + s1) 0 M0)) := rfl
set_option maxHeartbeats 4000000 in
set_option maxRecDepth 100000 in
theorem kX9_given_18 {p : Program} {l : Launch} {e : Env} {s : State} {m : MethodId} {args : Array Value} {below : List Frame} {meth : Method} {c : Code} {w : xT} (X : xX p s m args meth c cX9_given 4 (some .int) RX9 w) (V : Int32)  : ∀ (x2 : Int32) (x3 : Int32) (s0 : Int32) (s1 : Int32) (M0 : xM) (H : Heap) (locs : List Loc) (ls : Array Slot), fX9_given_18  x2 x3 s0 s1 M0 = some V → xP w M0 H → xS w s H locs → lv_has ls 4 [(2, .int x2), (3, .int x3)] → W p l e { frames := 0, cells := 0, slots := 0, locals := 0 } s m args below meth c H locs 0 0 (xQ w (some (.int V)) M0 below args s) (F0 m 18 ls [.int s1, .int s0]) := by
  have hx := X.1
  have hb := X.2.1
  have hown := X.2.2.2.2.2.1
  have hts := X.2.2.2.2.2.2.1
  intro x2 x3 s0 s1 M0 H locs ls hm hP hS hl
  rw [fX9_given_18_s] at hm
  refine lv_iadd hx hb dX9_given_18 ?_
  refine lv_iload_n hx hb dX9_given_19 rfl (lv_at hl 0 rfl) ?_
  refine lv_if_ge (tgt := 27) hx hb dX9_given_20 (by decide) (fun c2 => ?_) (fun c2 => ?_)
  · have hm := xift c2 hm
    refine lv_iconst (v := 1) hx hb dX9_given_27 (by decide) ?_
    exact kX9_given_28 X V  x3 (s0 + s1) 1 M0 _ _ _ hm hP hS (lv_sub hl [1] rfl)
  · have hm := xiff c2 hm
    refine lv_iconst (v := 0) hx hb dX9_given_23 (by decide) ?_
    refine lv_goto (tgt := 28) hx hb dX9_given_24 (by decide) ?_
    exact kX9_given_28 X V  x3 (s0 + s1) 0 M0 _ _ _ hm hP hS (lv_sub hl [1] rfl)
def fX9_given_9  (x1 : Int32) (x2 : Int32) (x3 : Int32) (s0 : Int32) (M0 : xM) : Option (Int32) := if 0 ≤ x1 then (fX9_given_18 x2 x3 s0 1 M0) else (fX9_given_18 x2 x3 s0 0 M0)
theorem fX9_given_9_s  (x1 : Int32) (x2 : Int32) (x3 : Int32) (s0 : Int32) (M0 : xM) : fX9_given_9  x1 x2 x3 s0 M0 = (if 0 ≤ x1 then (fX9_given_18 x2 x3 s0 1 M0) else (fX9_given_18 x2 x3 s0 0 M0)) := rfl
set_option maxHeartbeats 4000000 in
set_option maxRecDepth 100000 in
theorem kX9_given_9 {p : Program} {l : Launch} {e : Env} {s : State} {m : MethodId} {args : Array Value} {below : List Frame} {meth : Method} {c : Code} {w : xT} (X : xX p s m args meth c cX9_given 4 (some .int) RX9 w) (V : Int32)  : ∀ (x1 : Int32) (x2 : Int32) (x3 : Int32) (s0 : Int32) (M0 : xM) (H : Heap) (locs : List Loc) (ls : Array Slot), fX9_given_9  x1 x2 x3 s0 M0 = some V → xP w M0 H → xS w s H locs → lv_has ls 4 [(1, .int x1), (2, .int x2), (3, .int x3)] → W p l e { frames := 0, cells := 0, slots := 0, locals := 0 } s m args below meth c H locs 0 0 (xQ w (some (.int V)) M0 below args s) (F0 m 9 ls [.int s0]) := by
  have hx := X.1
  have hb := X.2.1
  have hown := X.2.2.2.2.2.1
  have hts := X.2.2.2.2.2.2.1
  intro x1 x2 x3 s0 M0 H locs ls hm hP hS hl
  rw [fX9_given_9_s] at hm
  refine lv_iload_n hx hb dX9_given_9 rfl (lv_at hl 0 rfl) ?_
  refine lv_if_ge (tgt := 17) hx hb dX9_given_10 (by decide) (fun c3 => ?_) (fun c3 => ?_)
  · have hm := xift c3 hm
    refine lv_iconst (v := 1) hx hb dX9_given_17 (by decide) ?_
    exact kX9_given_18 X V  x2 x3 s0 1 M0 _ _ _ hm hP hS (lv_sub hl [1, 2] rfl)
  · have hm := xiff c3 hm
    refine lv_iconst (v := 0) hx hb dX9_given_13 (by decide) ?_
    refine lv_goto (tgt := 18) hx hb dX9_given_14 (by decide) ?_
    exact kX9_given_18 X V  x2 x3 s0 0 M0 _ _ _ hm hP hS (lv_sub hl [1, 2] rfl)
def fX9_given (x0 : Int32) (x1 : Int32) (x2 : Int32) (x3 : Int32) (M0 : xM) : Option (Int32) := if 0 ≤ x0 then (fX9_given_9 x1 x2 x3 1 M0) else (fX9_given_9 x1 x2 x3 0 M0)
theorem fX9_given_s (x0 : Int32) (x1 : Int32) (x2 : Int32) (x3 : Int32) (M0 : xM) : fX9_given x0 x1 x2 x3 M0 = (if 0 ≤ x0 then (fX9_given_9 x1 x2 x3 1 M0) else (fX9_given_9 x1 x2 x3 0 M0)) := rfl
set_option maxHeartbeats 4000000 in
set_option maxRecDepth 100000 in
theorem qX9_given (l : Launch) (w : xT) (x0 : Int32) (x1 : Int32) (x2 : Int32) (x3 : Int32) (M0 : xM) (V : Int32) (hm : fX9_given x0 x1 x2 x3 M0 = some V) : xC l yX9_given (Cond.code yX9_given cX9_given 4 (some .int)) { frames := 0, cells := 0, slots := 0, locals := 0 } w [.int x0, .int x1, .int x2, .int x3] M0 (some (.int V)) M0 := by
  refine xC.of (by decide) (Nat.le_of_ble_eq_true rfl) ?_
  intro p e s m args below meth c ls X hP hS hl
  have hl : lv_has ls 4 [(0, .int x0), (1, .int x1), (2, .int x2), (3, .int x3)] := hl
  have X : xX p s m args meth c cX9_given 4 (some .int) RX9 w := X
  have hx := X.1
  have hb := X.2.1
  have hown := X.2.2.2.2.2.1
  have hts := X.2.2.2.2.2.2.1
  rw [fX9_given_s] at hm
  refine lv_iload_n hx hb dX9_given_0 rfl (lv_at hl 0 rfl) ?_
  refine lv_if_ge (tgt := 8) hx hb dX9_given_1 (by decide) (fun c4 => ?_) (fun c4 => ?_)
  · have hm := xift c4 hm
    refine lv_iconst (v := 1) hx hb dX9_given_8 (by decide) ?_
    exact kX9_given_9 X V  x1 x2 x3 1 M0 _ _ _ hm hP hS (lv_sub hl [1, 2, 3] rfl)
  · have hm := xiff c4 hm
    refine lv_iconst (v := 0) hx hb dX9_given_4 (by decide) ?_
    refine lv_goto (tgt := 9) hx hb dX9_given_5 (by decide) ?_
    exact kX9_given_9 X V  x1 x2 x3 0 M0 _ _ _ hm hP hS (lv_sub hl [1, 2, 3] rfl)
def fX9_comeTo (x1 : Int32) (x2 : Int32) (M : xM) : Option (xM) := if x2 < 0 then (some M) else (if xin x1 8 then if xin ((400 * x1) + (M 39 x1.toNatClampNeg)) 3200 then xlt (xs1 M 38 ((400 * x1) + (M 39 x1.toNatClampNeg)).toNatClampNeg x2) fun M4 => if xin x1 8 then if xin x1 8 then xlt (xs1 M4 39 x1.toNatClampNeg ((M4 39 x1.toNatClampNeg) + 1)) fun M7 => xlt (xs1 M7 37 2 ((M7 37 2) + 1)) fun M8 => some M8 else none else none else none else none)
theorem fX9_comeTo_s (x1 : Int32) (x2 : Int32) (M : xM) : fX9_comeTo x1 x2 M = (if x2 < 0 then (some M) else (if xin x1 8 then if xin ((400 * x1) + (M 39 x1.toNatClampNeg)) 3200 then xlt (xs1 M 38 ((400 * x1) + (M 39 x1.toNatClampNeg)).toNatClampNeg x2) fun M4 => if xin x1 8 then if xin x1 8 then xlt (xs1 M4 39 x1.toNatClampNeg ((M4 39 x1.toNatClampNeg) + 1)) fun M7 => xlt (xs1 M7 37 2 ((M7 37 2) + 1)) fun M8 => some M8 else none else none else none else none)) := rfl
set_option maxHeartbeats 4000000 in
set_option maxRecDepth 100000 in
theorem qX9_comeTo (l : Launch) (w : xT) (x1 : Int32) (x2 : Int32) (M : xM) (V : xM) (hm : fX9_comeTo x1 x2 M = some V) : xC l yX9_comeTo (Cond.code yX9_comeTo cX9_comeTo 3 none) { frames := 0, cells := 0, slots := 0, locals := 0 } w [.ref (xa w 37), .int x1, .int x2] M none V := by
  refine xC.of (by decide) (Nat.le_of_ble_eq_true rfl) ?_
  intro p e s m args below meth c ls X hP hS hl
  have hl : lv_has ls 3 [(0, .ref (xa w 37)), (1, .int x1), (2, .int x2)] := hl
  have X : xX p s m args meth c cX9_comeTo 3 none RX9 w := X
  have hx := X.1
  have hb := X.2.1
  have hown := X.2.2.2.2.2.1
  have hts := X.2.2.2.2.2.2.1
  rw [fX9_comeTo_s] at hm
  refine lv_iload_n hx hb dX9_comeTo_0 rfl (lv_at hl 2 rfl) ?_
  refine lv_if_lt (tgt := 42) hx hb dX9_comeTo_1 (by decide) (fun c1 => ?_) (fun c1 => ?_)
  · have hm := xift c1 hm
    obtain rfl := Option.some.inj hm
    exact xvret X hP hS dX9_comeTo_42
  · have hm := xiff c1 hm
    refine lv_aload_n hx hb dX9_comeTo_4 rfl (lv_at hl 0 rfl) ?_
    refine xget xcX9 X hP 37 0 xy37 (by decide) xf_X9_7 rfl dX9_comeTo_5 ?_
    refine lv_sipush (v := 400) hx hb dX9_comeTo_8 (by decide) ?_
    refine lv_iload_n hx hb dX9_comeTo_11 rfl (lv_at hl 1 rfl) ?_
    refine lv_imul hx hb dX9_comeTo_12 ?_
    refine lv_aload_n hx hb dX9_comeTo_13 rfl (lv_at hl 0 rfl) ?_
    refine xget xcX9 X hP 37 1 xy37 (by decide) xf_X9_13 rfl dX9_comeTo_14 ?_
    refine lv_iload_n hx hb dX9_comeTo_17 rfl (lv_at hl 1 rfl) ?_
    obtain ⟨hi2, hm⟩ := xifn hm
    refine xiald X hP 39 xy39 hi2 dX9_comeTo_18 ?_
    refine lv_iadd hx hb dX9_comeTo_19 ?_
    refine lv_iload_n hx hb dX9_comeTo_20 rfl (lv_at hl 2 rfl) ?_
    obtain ⟨hi3, hm⟩ := xifn hm
    refine xiast X hP hS 38 xy38 hi3 dX9_comeTo_21 (fun M4 H locs eM4 hP hS => ?_)
    have hm := xltE hm eM4
    refine lv_aload_n hx hb dX9_comeTo_22 rfl (lv_at hl 0 rfl) ?_
    refine xget xcX9 X hP 37 1 xy37 (by decide) xf_X9_13 rfl dX9_comeTo_23 ?_
    refine lv_iload_n hx hb dX9_comeTo_26 rfl (lv_at hl 1 rfl) ?_
    refine lv_dup2_11 hx hb dX9_comeTo_27 rfl rfl ?_
    obtain ⟨hi5, hm⟩ := xifn hm
    refine xiald X hP 39 xy39 hi5 dX9_comeTo_28 ?_
    refine lv_iconst (v := 1) hx hb dX9_comeTo_29 (by decide) ?_
    refine lv_iadd hx hb dX9_comeTo_30 ?_
    obtain ⟨hi6, hm⟩ := xifn hm
    refine xiast X hP hS 39 xy39 hi6 dX9_comeTo_31 (fun M7 H locs eM7 hP hS => ?_)
    have hm := xltE hm eM7
    refine lv_aload_n hx hb dX9_comeTo_32 rfl (lv_at hl 0 rfl) ?_
    refine lv_dup hx hb dX9_comeTo_33 rfl ?_
    refine xgeti xcX9 X hP 37 2 xy37 (by decide) xf_X9_52 rfl dX9_comeTo_34 ?_
    refine lv_iconst (v := 1) hx hb dX9_comeTo_37 (by decide) ?_
    refine lv_iadd hx hb dX9_comeTo_38 ?_
    refine xputi xcX9 X hP hS 37 2 xy37 (by decide) xf_X9_52 rfl (tyX9_ok 2 (by decide)) rfl dX9_comeTo_39 (fun M8 H locs eM8 hP hS => ?_)
    have hm := xltE hm eM8
    obtain rfl := Option.some.inj hm
    exact xvret X hP hS dX9_comeTo_42
def fX9_add (x1 : Int32) (x2 : Int32) (x3 : Int32) (x4 : Int32) (x5 : Int32) (M : xM) : Option (Int32 × xM) := (fX9_isText x1 M).bind fun v1 => if v1 = 0 then (some ((-1), M)) else ((fX9_isGiven x2 M).bind fun v3 => if v3 = 0 then (some ((-1), M)) else ((fX9_isGiven x3 M).bind fun v5 => if v5 = 0 then (some ((-1), M)) else ((fX9_isGiven x4 M).bind fun v7 => if v7 = 0 then (some ((-1), M)) else ((fX9_isGiven x5 M).bind fun v9 => if v9 = 0 then (some ((-1), M)) else ((fX9_given x2 x3 x4 x5 M).bind fun v11 => if ((M 37 2) + v11) ≤ 400 then ((fX9_comeTo x1 x2 M).bind fun v13 => (fX9_comeTo x1 x3 v13).bind fun v14 => (fX9_comeTo x1 x4 v14).bind fun v15 => (fX9_comeTo x1 x5 v15).bind fun v16 => if xin x1 8 then some (v16 39 x1.toNatClampNeg, v16) else none) else (some ((-1), M)))))))
theorem fX9_add_s (x1 : Int32) (x2 : Int32) (x3 : Int32) (x4 : Int32) (x5 : Int32) (M : xM) : fX9_add x1 x2 x3 x4 x5 M = ((fX9_isText x1 M).bind fun v1 => if v1 = 0 then (some ((-1), M)) else ((fX9_isGiven x2 M).bind fun v3 => if v3 = 0 then (some ((-1), M)) else ((fX9_isGiven x3 M).bind fun v5 => if v5 = 0 then (some ((-1), M)) else ((fX9_isGiven x4 M).bind fun v7 => if v7 = 0 then (some ((-1), M)) else ((fX9_isGiven x5 M).bind fun v9 => if v9 = 0 then (some ((-1), M)) else ((fX9_given x2 x3 x4 x5 M).bind fun v11 => if ((M 37 2) + v11) ≤ 400 then ((fX9_comeTo x1 x2 M).bind fun v13 => (fX9_comeTo x1 x3 v13).bind fun v14 => (fX9_comeTo x1 x4 v14).bind fun v15 => (fX9_comeTo x1 x5 v15).bind fun v16 => if xin x1 8 then some (v16 39 x1.toNatClampNeg, v16) else none) else (some ((-1), M)))))))) := rfl
set_option maxHeartbeats 4000000 in
set_option maxRecDepth 100000 in
theorem qX9_add (l : Launch) (w : xT) (x1 : Int32) (x2 : Int32) (x3 : Int32) (x4 : Int32) (x5 : Int32) (M : xM) (V : Int32 × xM) (hm : fX9_add x1 x2 x3 x4 x5 M = some V) : xC l yX9_add (Cond.code yX9_add cX9_add 6 (some .int)) { frames := 1, cells := 0, slots := 0, locals := 23 } w [.ref (xa w 37), .int x1, .int x2, .int x3, .int x4, .int x5] M (some (.int V.1)) V.2 := by
  refine xC.of (by decide) (Nat.le_of_ble_eq_true rfl) ?_
  intro p e s m args below meth c ls X hP hS hl
  have hl : lv_has ls 6 [(0, .ref (xa w 37)), (1, .int x1), (2, .int x2), (3, .int x3), (4, .int x4), (5, .int x5)] := hl
  have X : xX p s m args meth c cX9_add 6 (some .int) RX9 w := X
  have hx := X.1
  have hb := X.2.1
  have hown := X.2.2.2.2.2.1
  have hts := X.2.2.2.2.2.2.1
  rw [fX9_add_s] at hm
  refine lv_iload_n hx hb dX9_add_0 rfl (lv_at hl 1 rfl) ?_
  obtain ⟨v1, hg, hm⟩ := xbnd hm
  refine xcallS xm_X9_55 xt_X9_isText X hP hS (qX9_isText l w x1 M v1 hg) ⟨Nat.le_of_ble_eq_true rfl, Nat.le_of_ble_eq_true rfl⟩ ⟨rfl, rfl⟩ hl.1 rfl (rest := []) rfl (Nat.le_of_ble_eq_true rfl) dX9_add_1 ⟨Nat.zero_le _, Nat.zero_le _⟩ (fun H locs hP hS => ?_)
  refine W.eq (g2 := F0 m 4 ls [.int v1]) rfl ?_
  refine lv_if_eq (tgt := 57) hx hb dX9_add_4 (by decide) (fun c2 => ?_) (fun c2 => ?_)
  · have hm := xift c2 hm
    refine lv_iconst (v := (-1)) hx hb dX9_add_57 (by decide) ?_
    obtain rfl := Option.some.inj hm
    exact xiret X hP hS dX9_add_58
  · have hm := xiff c2 hm
    refine lv_iload_n hx hb dX9_add_7 rfl (lv_at hl 2 rfl) ?_
    obtain ⟨v3, hg, hm⟩ := xbnd hm
    refine xcallS xm_X9_59 xt_X9_isGiven X hP hS (qX9_isGiven l w x2 M v3 hg) ⟨Nat.le_of_ble_eq_true rfl, Nat.le_of_ble_eq_true rfl⟩ ⟨rfl, rfl⟩ hl.1 rfl (rest := []) rfl (Nat.le_of_ble_eq_true rfl) dX9_add_8 ⟨Nat.zero_le _, Nat.zero_le _⟩ (fun H locs hP hS => ?_)
    refine W.eq (g2 := F0 m 11 ls [.int v3]) rfl ?_
    refine lv_if_eq (tgt := 57) hx hb dX9_add_11 (by decide) (fun c4 => ?_) (fun c4 => ?_)
    · have hm := xift c4 hm
      refine lv_iconst (v := (-1)) hx hb dX9_add_57 (by decide) ?_
      obtain rfl := Option.some.inj hm
      exact xiret X hP hS dX9_add_58
    · have hm := xiff c4 hm
      refine lv_iload_n hx hb dX9_add_14 rfl (lv_at hl 3 rfl) ?_
      obtain ⟨v5, hg, hm⟩ := xbnd hm
      refine xcallS xm_X9_59 xt_X9_isGiven X hP hS (qX9_isGiven l w x3 M v5 hg) ⟨Nat.le_of_ble_eq_true rfl, Nat.le_of_ble_eq_true rfl⟩ ⟨rfl, rfl⟩ hl.1 rfl (rest := []) rfl (Nat.le_of_ble_eq_true rfl) dX9_add_15 ⟨Nat.zero_le _, Nat.zero_le _⟩ (fun H locs hP hS => ?_)
      refine W.eq (g2 := F0 m 18 ls [.int v5]) rfl ?_
      refine lv_if_eq (tgt := 57) hx hb dX9_add_18 (by decide) (fun c6 => ?_) (fun c6 => ?_)
      · have hm := xift c6 hm
        refine lv_iconst (v := (-1)) hx hb dX9_add_57 (by decide) ?_
        obtain rfl := Option.some.inj hm
        exact xiret X hP hS dX9_add_58
      · have hm := xiff c6 hm
        refine lv_iload hx hb dX9_add_21 (lv_at hl 4 rfl) ?_
        obtain ⟨v7, hg, hm⟩ := xbnd hm
        refine xcallS xm_X9_59 xt_X9_isGiven X hP hS (qX9_isGiven l w x4 M v7 hg) ⟨Nat.le_of_ble_eq_true rfl, Nat.le_of_ble_eq_true rfl⟩ ⟨rfl, rfl⟩ hl.1 rfl (rest := []) rfl (Nat.le_of_ble_eq_true rfl) dX9_add_23 ⟨Nat.zero_le _, Nat.zero_le _⟩ (fun H locs hP hS => ?_)
        refine W.eq (g2 := F0 m 26 ls [.int v7]) rfl ?_
        refine lv_if_eq (tgt := 57) hx hb dX9_add_26 (by decide) (fun c8 => ?_) (fun c8 => ?_)
        · have hm := xift c8 hm
          refine lv_iconst (v := (-1)) hx hb dX9_add_57 (by decide) ?_
          obtain rfl := Option.some.inj hm
          exact xiret X hP hS dX9_add_58
        · have hm := xiff c8 hm
          refine lv_iload hx hb dX9_add_29 (lv_at hl 5 rfl) ?_
          obtain ⟨v9, hg, hm⟩ := xbnd hm
          refine xcallS xm_X9_59 xt_X9_isGiven X hP hS (qX9_isGiven l w x5 M v9 hg) ⟨Nat.le_of_ble_eq_true rfl, Nat.le_of_ble_eq_true rfl⟩ ⟨rfl, rfl⟩ hl.1 rfl (rest := []) rfl (Nat.le_of_ble_eq_true rfl) dX9_add_31 ⟨Nat.zero_le _, Nat.zero_le _⟩ (fun H locs hP hS => ?_)
          refine W.eq (g2 := F0 m 34 ls [.int v9]) rfl ?_
          refine lv_if_eq (tgt := 57) hx hb dX9_add_34 (by decide) (fun c10 => ?_) (fun c10 => ?_)
          · have hm := xift c10 hm
            refine lv_iconst (v := (-1)) hx hb dX9_add_57 (by decide) ?_
            obtain rfl := Option.some.inj hm
            exact xiret X hP hS dX9_add_58
          · have hm := xiff c10 hm
            refine lv_aload_n hx hb dX9_add_37 rfl (lv_at hl 0 rfl) ?_
            refine xgeti xcX9 X hP 37 2 xy37 (by decide) xf_X9_52 rfl dX9_add_38 ?_
            refine lv_iload_n hx hb dX9_add_41 rfl (lv_at hl 2 rfl) ?_
            refine lv_iload_n hx hb dX9_add_42 rfl (lv_at hl 3 rfl) ?_
            refine lv_iload hx hb dX9_add_43 (lv_at hl 4 rfl) ?_
            refine lv_iload hx hb dX9_add_45 (lv_at hl 5 rfl) ?_
            obtain ⟨v11, hg, hm⟩ := xbnd hm
            refine xcallS xm_X9_62 xt_X9_given X hP hS (qX9_given l w x2 x3 x4 x5 M v11 hg) ⟨Nat.le_of_ble_eq_true rfl, Nat.le_of_ble_eq_true rfl⟩ ⟨rfl, rfl⟩ hl.1 rfl (rest := [.int (M 37 2)]) rfl (Nat.le_of_ble_eq_true rfl) dX9_add_47 ⟨Nat.zero_le _, Nat.zero_le _⟩ (fun H locs hP hS => ?_)
            refine W.eq (g2 := F0 m 50 ls [.int v11, .int (M 37 2)]) rfl ?_
            refine lv_iadd hx hb dX9_add_50 ?_
            refine lv_sipush (v := 400) hx hb dX9_add_51 (by decide) ?_
            refine lv_icmp_le (tgt := 59) hx hb dX9_add_54 (by decide) (fun c12 => ?_) (fun c12 => ?_)
            · have hm := xift c12 hm
              refine lv_aload_n hx hb dX9_add_59 rfl (lv_at hl 0 rfl) ?_
              refine lv_iload_n hx hb dX9_add_60 rfl (lv_at hl 1 rfl) ?_
              refine lv_iload_n hx hb dX9_add_61 rfl (lv_at hl 2 rfl) ?_
              obtain ⟨v13, hg, hm⟩ := xbnd hm
              refine xcallV xm_X9_66 xt_X9_comeTo X hP hS (qX9_comeTo l w x1 x2 M v13 hg) xy37 rfl ⟨Nat.le_of_ble_eq_true rfl, Nat.le_of_ble_eq_true rfl⟩ ⟨rfl, rfl⟩ hl.1 rfl (rest := []) rfl (Nat.le_of_ble_eq_true rfl) dX9_add_62 ⟨Nat.zero_le _, Nat.zero_le _⟩ (fun H locs hP hS => ?_)
              refine W.eq (g2 := F0 m 65 ls []) rfl ?_
              refine lv_aload_n hx hb dX9_add_65 rfl (lv_at hl 0 rfl) ?_
              refine lv_iload_n hx hb dX9_add_66 rfl (lv_at hl 1 rfl) ?_
              refine lv_iload_n hx hb dX9_add_67 rfl (lv_at hl 3 rfl) ?_
              obtain ⟨v14, hg, hm⟩ := xbnd hm
              refine xcallV xm_X9_66 xt_X9_comeTo X hP hS (qX9_comeTo l w x1 x3 v13 v14 hg) xy37 rfl ⟨Nat.le_of_ble_eq_true rfl, Nat.le_of_ble_eq_true rfl⟩ ⟨rfl, rfl⟩ hl.1 rfl (rest := []) rfl (Nat.le_of_ble_eq_true rfl) dX9_add_68 ⟨Nat.zero_le _, Nat.zero_le _⟩ (fun H locs hP hS => ?_)
              refine W.eq (g2 := F0 m 71 ls []) rfl ?_
              refine lv_aload_n hx hb dX9_add_71 rfl (lv_at hl 0 rfl) ?_
              refine lv_iload_n hx hb dX9_add_72 rfl (lv_at hl 1 rfl) ?_
              refine lv_iload hx hb dX9_add_73 (lv_at hl 4 rfl) ?_
              obtain ⟨v15, hg, hm⟩ := xbnd hm
              refine xcallV xm_X9_66 xt_X9_comeTo X hP hS (qX9_comeTo l w x1 x4 v14 v15 hg) xy37 rfl ⟨Nat.le_of_ble_eq_true rfl, Nat.le_of_ble_eq_true rfl⟩ ⟨rfl, rfl⟩ hl.1 rfl (rest := []) rfl (Nat.le_of_ble_eq_true rfl) dX9_add_75 ⟨Nat.zero_le _, Nat.zero_le _⟩ (fun H locs hP hS => ?_)
              refine W.eq (g2 := F0 m 78 ls []) rfl ?_
              refine lv_aload_n hx hb dX9_add_78 rfl (lv_at hl 0 rfl) ?_
              refine lv_iload_n hx hb dX9_add_79 rfl (lv_at hl 1 rfl) ?_
              refine lv_iload hx hb dX9_add_80 (lv_at hl 5 rfl) ?_
              obtain ⟨v16, hg, hm⟩ := xbnd hm
              refine xcallV xm_X9_66 xt_X9_comeTo X hP hS (qX9_comeTo l w x1 x5 v15 v16 hg) xy37 rfl ⟨Nat.le_of_ble_eq_true rfl, Nat.le_of_ble_eq_true rfl⟩ ⟨rfl, rfl⟩ hl.1 rfl (rest := []) rfl (Nat.le_of_ble_eq_true rfl) dX9_add_82 ⟨Nat.zero_le _, Nat.zero_le _⟩ (fun H locs hP hS => ?_)
              refine W.eq (g2 := F0 m 85 ls []) rfl ?_
              refine lv_aload_n hx hb dX9_add_85 rfl (lv_at hl 0 rfl) ?_
              refine xget xcX9 X hP 37 1 xy37 (by decide) xf_X9_13 rfl dX9_add_86 ?_
              refine lv_iload_n hx hb dX9_add_89 rfl (lv_at hl 1 rfl) ?_
              obtain ⟨hi17, hm⟩ := xifn hm
              refine xiald X hP 39 xy39 hi17 dX9_add_90 ?_
              obtain rfl := Option.some.inj hm
              exact xiret X hP hS dX9_add_91
            · have hm := xiff c12 hm
              refine lv_iconst (v := (-1)) hx hb dX9_add_57 (by decide) ?_
              obtain rfl := Option.some.inj hm
              exact xiret X hP hS dX9_add_58
end
