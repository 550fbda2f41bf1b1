section
-- ===== PART A: goes FIRST, ahead of the names: the tables' words, and 'selects' of the private methods out of them =====
/-- a private method of a class that the tables say can be made, by its rows of tables_1 -/
def lw_okq (q : MethodName × Nat) : Prop := (q.1.cls ≠ "java/lang/invoke/MethodHandle" ∧ q.1.cls ≠ "java/lang/invoke/VarHandle") ∧ Cond.instantiable q.1.cls q.2 ∈ tables_1 ∧ Cond.privateMethod q.1 ∈ tables_1 ∧ Cond.instanceMethod q.1 ∈ tables_1
theorem lw_p0 : lw_okq (⟨"BurntLetters$Page", "mayStand", "(II)Z"⟩, 2) := ⟨⟨by decide +kernel, by decide +kernel⟩, List.mem_of_getElem? (i := 22) (by decide +kernel), List.mem_of_getElem? (i := 166) (by decide +kernel), List.mem_of_getElem? (i := 167) (by decide +kernel)⟩
theorem lw_p1 : lw_okq (⟨"BurntLetters$Archive", "isKept", "(JI)Z"⟩, 8) := ⟨⟨by decide +kernel, by decide +kernel⟩, List.mem_of_getElem? (i := 52) (by decide +kernel), List.mem_of_getElem? (i := 331) (by decide +kernel), List.mem_of_getElem? (i := 332) (by decide +kernel)⟩
theorem lw_p2 : lw_okq (⟨"BurntLetters$Archive", "isPointedTo", "(JI)Z"⟩, 8) := ⟨⟨by decide +kernel, by decide +kernel⟩, List.mem_of_getElem? (i := 52) (by decide +kernel), List.mem_of_getElem? (i := 339) (by decide +kernel), List.mem_of_getElem? (i := 340) (by decide +kernel)⟩
theorem lw_p3 : lw_okq (⟨"BurntLetters$Archive", "grown", "(JI)J"⟩, 8) := ⟨⟨by decide +kernel, by decide +kernel⟩, List.mem_of_getElem? (i := 52) (by decide +kernel), List.mem_of_getElem? (i := 363) (by decide +kernel), List.mem_of_getElem? (i := 364) (by decide +kernel)⟩
theorem lw_p4 : lw_okq (⟨"BurntLetters$Foresight", "waysToLive", "(JII)I"⟩, 2) := ⟨⟨by decide +kernel, by decide +kernel⟩, List.mem_of_getElem? (i := 89) (by decide +kernel), List.mem_of_getElem? (i := 371) (by decide +kernel), List.mem_of_getElem? (i := 372) (by decide +kernel)⟩
theorem lw_p5 : lw_okq (⟨"BurntLetters$Foresight", "isLeftForSure", "(III)Z"⟩, 2) := ⟨⟨by decide +kernel, by decide +kernel⟩, List.mem_of_getElem? (i := 89) (by decide +kernel), List.mem_of_getElem? (i := 407) (by decide +kernel), List.mem_of_getElem? (i := 408) (by decide +kernel)⟩
theorem lw_p6 : lw_okq (⟨"BurntLetters$Foresight", "rowsFrom", "(JIII)I"⟩, 2) := ⟨⟨by decide +kernel, by decide +kernel⟩, List.mem_of_getElem? (i := 89) (by decide +kernel), List.mem_of_getElem? (i := 461) (by decide +kernel), List.mem_of_getElem? (i := 462) (by decide +kernel)⟩
theorem lw_p7 : lw_okq (⟨"BurntLetters$Foresight", "isAsTold", "(JI)Z"⟩, 2) := ⟨⟨by decide +kernel, by decide +kernel⟩, List.mem_of_getElem? (i := 89) (by decide +kernel), List.mem_of_getElem? (i := 465) (by decide +kernel), List.mem_of_getElem? (i := 466) (by decide +kernel)⟩
theorem lw_p8 : lw_okq (⟨"BurntLetters$Foresight", "nothingToldFrom", "(I)Z"⟩, 2) := ⟨⟨by decide +kernel, by decide +kernel⟩, List.mem_of_getElem? (i := 89) (by decide +kernel), List.mem_of_getElem? (i := 477) (by decide +kernel), List.mem_of_getElem? (i := 478) (by decide +kernel)⟩
theorem lw_p9 : lw_okq (⟨"BurntLetters", "mixedWithFile", "(JI)J"⟩, 9) := ⟨⟨by decide +kernel, by decide +kernel⟩, List.mem_of_getElem? (i := 14) (by decide +kernel), List.mem_of_getElem? (i := 543) (by decide +kernel), List.mem_of_getElem? (i := 544) (by decide +kernel)⟩
theorem lw_p10 : lw_okq (⟨"BurntLettersModel", "faultOf", "()I"⟩, 29) := ⟨⟨by decide +kernel, by decide +kernel⟩, List.mem_of_getElem? (i := 552) (by decide +kernel), List.mem_of_getElem? (i := 662) (by decide +kernel), List.mem_of_getElem? (i := 663) (by decide +kernel)⟩
theorem lw_p11 : lw_okq (⟨"BurntLettersModel", "tellUnder", "(II)I"⟩, 29) := ⟨⟨by decide +kernel, by decide +kernel⟩, List.mem_of_getElem? (i := 552) (by decide +kernel), List.mem_of_getElem? (i := 682) (by decide +kernel), List.mem_of_getElem? (i := 683) (by decide +kernel)⟩
theorem lw_p12 : lw_okq (⟨"BurntLettersModel", "fullness", "([II)I"⟩, 29) := ⟨⟨by decide +kernel, by decide +kernel⟩, List.mem_of_getElem? (i := 552) (by decide +kernel), List.mem_of_getElem? (i := 686) (by decide +kernel), List.mem_of_getElem? (i := 687) (by decide +kernel)⟩
theorem lw_p13 : lw_okq (⟨"BurntLettersModel", "lacks", "()Z"⟩, 29) := ⟨⟨by decide +kernel, by decide +kernel⟩, List.mem_of_getElem? (i := 552) (by decide +kernel), List.mem_of_getElem? (i := 695) (by decide +kernel), List.mem_of_getElem? (i := 696) (by decide +kernel)⟩
theorem lw_p14 : lw_okq (⟨"BurntLettersModel", "isFile", "(I)Z"⟩, 29) := ⟨⟨by decide +kernel, by decide +kernel⟩, List.mem_of_getElem? (i := 552) (by decide +kernel), List.mem_of_getElem? (i := 703) (by decide +kernel), List.mem_of_getElem? (i := 704) (by decide +kernel)⟩
theorem lw_p15 : lw_okq (⟨"BurntLettersModel", "tell", "(II)I"⟩, 29) := ⟨⟨by decide +kernel, by decide +kernel⟩, List.mem_of_getElem? (i := 552) (by decide +kernel), List.mem_of_getElem? (i := 707) (by decide +kernel), List.mem_of_getElem? (i := 708) (by decide +kernel)⟩
def lw_privs_1 : List (MethodName × Nat) := [(⟨"BurntLetters$Page", "mayStand", "(II)Z"⟩, 2), (⟨"BurntLetters$Archive", "isKept", "(JI)Z"⟩, 8), (⟨"BurntLetters$Archive", "isPointedTo", "(JI)Z"⟩, 8), (⟨"BurntLetters$Archive", "grown", "(JI)J"⟩, 8), (⟨"BurntLetters$Foresight", "waysToLive", "(JII)I"⟩, 2), (⟨"BurntLetters$Foresight", "isLeftForSure", "(III)Z"⟩, 2), (⟨"BurntLetters$Foresight", "rowsFrom", "(JIII)I"⟩, 2), (⟨"BurntLetters$Foresight", "isAsTold", "(JI)Z"⟩, 2), (⟨"BurntLetters$Foresight", "nothingToldFrom", "(I)Z"⟩, 2), (⟨"BurntLetters", "mixedWithFile", "(JI)J"⟩, 9), (⟨"BurntLettersModel", "faultOf", "()I"⟩, 29), (⟨"BurntLettersModel", "tellUnder", "(II)I"⟩, 29), (⟨"BurntLettersModel", "fullness", "([II)I"⟩, 29), (⟨"BurntLettersModel", "lacks", "()Z"⟩, 29), (⟨"BurntLettersModel", "isFile", "(I)Z"⟩, 29), (⟨"BurntLettersModel", "tell", "(II)I"⟩, 29)]
theorem lw_r1 : ∀ q ∈ lw_privs_1, lw_okq q := List.forall_mem_cons.mpr ⟨lw_p0, List.forall_mem_cons.mpr ⟨lw_p1, List.forall_mem_cons.mpr ⟨lw_p2, List.forall_mem_cons.mpr ⟨lw_p3, List.forall_mem_cons.mpr ⟨lw_p4, List.forall_mem_cons.mpr ⟨lw_p5, List.forall_mem_cons.mpr ⟨lw_p6, List.forall_mem_cons.mpr ⟨lw_p7, List.forall_mem_cons.mpr ⟨lw_p8, List.forall_mem_cons.mpr ⟨lw_p9, List.forall_mem_cons.mpr ⟨lw_p10, List.forall_mem_cons.mpr ⟨lw_p11, List.forall_mem_cons.mpr ⟨lw_p12, List.forall_mem_cons.mpr ⟨lw_p13, List.forall_mem_cons.mpr ⟨lw_p14, List.forall_mem_cons.mpr ⟨lw_p15, fun _ h => absurd h List.not_mem_nil⟩⟩⟩⟩⟩⟩⟩⟩⟩⟩⟩⟩⟩⟩⟩⟩
theorem lw_p16 : lw_okq (⟨"BurntLettersModel", "namesOf", "(I)I"⟩, 29) := ⟨⟨by decide +kernel, by decide +kernel⟩, List.mem_of_getElem? (i := 552) (by decide +kernel), List.mem_of_getElem? (i := 711) (by decide +kernel), List.mem_of_getElem? (i := 712) (by decide +kernel)⟩
theorem lw_p17 : lw_okq (⟨"BurntLettersModel", "mayCopy", "(II)Z"⟩, 29) := ⟨⟨by decide +kernel, by decide +kernel⟩, List.mem_of_getElem? (i := 552) (by decide +kernel), List.mem_of_getElem? (i := 723) (by decide +kernel), List.mem_of_getElem? (i := 724) (by decide +kernel)⟩
theorem lw_p18 : lw_okq (⟨"BurntLettersModel", "mayRename", "([IIII)Z"⟩, 29) := ⟨⟨by decide +kernel, by decide +kernel⟩, List.mem_of_getElem? (i := 552) (by decide +kernel), List.mem_of_getElem? (i := 734) (by decide +kernel), List.mem_of_getElem? (i := 735) (by decide +kernel)⟩
theorem lw_p19 : lw_okq (⟨"BurntLettersModel", "asItIs", "()V"⟩, 29) := ⟨⟨by decide +kernel, by decide +kernel⟩, List.mem_of_getElem? (i := 552) (by decide +kernel), List.mem_of_getElem? (i := 746) (by decide +kernel), List.mem_of_getElem? (i := 747) (by decide +kernel)⟩
theorem lw_p20 : lw_okq (⟨"BurntLettersModel", "pass", "(I)I"⟩, 29) := ⟨⟨by decide +kernel, by decide +kernel⟩, List.mem_of_getElem? (i := 552) (by decide +kernel), List.mem_of_getElem? (i := 750) (by decide +kernel), List.mem_of_getElem? (i := 751) (by decide +kernel)⟩
theorem lw_p21 : lw_okq (⟨"BurntLettersModel", "burnsOf", "(II)I"⟩, 29) := ⟨⟨by decide +kernel, by decide +kernel⟩, List.mem_of_getElem? (i := 552) (by decide +kernel), List.mem_of_getElem? (i := 754) (by decide +kernel), List.mem_of_getElem? (i := 755) (by decide +kernel)⟩
theorem lw_p22 : lw_okq (⟨"BurntLettersModel", "isPointedAt", "(I)Z"⟩, 29) := ⟨⟨by decide +kernel, by decide +kernel⟩, List.mem_of_getElem? (i := 552) (by decide +kernel), List.mem_of_getElem? (i := 758) (by decide +kernel), List.mem_of_getElem? (i := 759) (by decide +kernel)⟩
theorem lw_p23 : lw_okq (⟨"BurntLettersModel", "spread", "(I)V"⟩, 29) := ⟨⟨by decide +kernel, by decide +kernel⟩, List.mem_of_getElem? (i := 552) (by decide +kernel), List.mem_of_getElem? (i := 762) (by decide +kernel), List.mem_of_getElem? (i := 763) (by decide +kernel)⟩
theorem lw_p24 : lw_okq (⟨"BurntLettersModel", "oddsOf", "(III)I"⟩, 29) := ⟨⟨by decide +kernel, by decide +kernel⟩, List.mem_of_getElem? (i := 552) (by decide +kernel), List.mem_of_getElem? (i := 770) (by decide +kernel), List.mem_of_getElem? (i := 771) (by decide +kernel)⟩
theorem lw_p25 : lw_okq (⟨"BurntLettersModel", "livesOf", "(II)I"⟩, 29) := ⟨⟨by decide +kernel, by decide +kernel⟩, List.mem_of_getElem? (i := 552) (by decide +kernel), List.mem_of_getElem? (i := 774) (by decide +kernel), List.mem_of_getElem? (i := 775) (by decide +kernel)⟩
theorem lw_p26 : lw_okq (⟨"BurntLettersModel", "whereOf", "(II)I"⟩, 29) := ⟨⟨by decide +kernel, by decide +kernel⟩, List.mem_of_getElem? (i := 552) (by decide +kernel), List.mem_of_getElem? (i := 788) (by decide +kernel), List.mem_of_getElem? (i := 789) (by decide +kernel)⟩
theorem lw_p27 : lw_okq (⟨"BurntLettersModel", "isSure", "(IZI)Z"⟩, 29) := ⟨⟨by decide +kernel, by decide +kernel⟩, List.mem_of_getElem? (i := 552) (by decide +kernel), List.mem_of_getElem? (i := 796) (by decide +kernel), List.mem_of_getElem? (i := 797) (by decide +kernel)⟩
theorem lw_p28 : lw_okq (⟨"BurntLettersModel", "nowhereOf", "()I"⟩, 29) := ⟨⟨by decide +kernel, by decide +kernel⟩, List.mem_of_getElem? (i := 552) (by decide +kernel), List.mem_of_getElem? (i := 804) (by decide +kernel), List.mem_of_getElem? (i := 805) (by decide +kernel)⟩
theorem lw_p29 : lw_okq (⟨"BurntLettersModel", "isMovedBy", "(II)Z"⟩, 29) := ⟨⟨by decide +kernel, by decide +kernel⟩, List.mem_of_getElem? (i := 552) (by decide +kernel), List.mem_of_getElem? (i := 812) (by decide +kernel), List.mem_of_getElem? (i := 813) (by decide +kernel)⟩
theorem lw_p30 : lw_okq (⟨"BurntLettersModel", "above", "(I)I"⟩, 29) := ⟨⟨by decide +kernel, by decide +kernel⟩, List.mem_of_getElem? (i := 552) (by decide +kernel), List.mem_of_getElem? (i := 816) (by decide +kernel), List.mem_of_getElem? (i := 817) (by decide +kernel)⟩
theorem lw_p31 : lw_okq (⟨"BurntLettersModel", "renameNow", "(III)V"⟩, 29) := ⟨⟨by decide +kernel, by decide +kernel⟩, List.mem_of_getElem? (i := 552) (by decide +kernel), List.mem_of_getElem? (i := 820) (by decide +kernel), List.mem_of_getElem? (i := 821) (by decide +kernel)⟩
def lw_privs_2 : List (MethodName × Nat) := [(⟨"BurntLettersModel", "namesOf", "(I)I"⟩, 29), (⟨"BurntLettersModel", "mayCopy", "(II)Z"⟩, 29), (⟨"BurntLettersModel", "mayRename", "([IIII)Z"⟩, 29), (⟨"BurntLettersModel", "asItIs", "()V"⟩, 29), (⟨"BurntLettersModel", "pass", "(I)I"⟩, 29), (⟨"BurntLettersModel", "burnsOf", "(II)I"⟩, 29), (⟨"BurntLettersModel", "isPointedAt", "(I)Z"⟩, 29), (⟨"BurntLettersModel", "spread", "(I)V"⟩, 29), (⟨"BurntLettersModel", "oddsOf", "(III)I"⟩, 29), (⟨"BurntLettersModel", "livesOf", "(II)I"⟩, 29), (⟨"BurntLettersModel", "whereOf", "(II)I"⟩, 29), (⟨"BurntLettersModel", "isSure", "(IZI)Z"⟩, 29), (⟨"BurntLettersModel", "nowhereOf", "()I"⟩, 29), (⟨"BurntLettersModel", "isMovedBy", "(II)Z"⟩, 29), (⟨"BurntLettersModel", "above", "(I)I"⟩, 29), (⟨"BurntLettersModel", "renameNow", "(III)V"⟩, 29)]
theorem lw_r2 : ∀ q ∈ lw_privs_2, lw_okq q := List.forall_mem_cons.mpr ⟨lw_p16, List.forall_mem_cons.mpr ⟨lw_p17, List.forall_mem_cons.mpr ⟨lw_p18, List.forall_mem_cons.mpr ⟨lw_p19, List.forall_mem_cons.mpr ⟨lw_p20, List.forall_mem_cons.mpr ⟨lw_p21, List.forall_mem_cons.mpr ⟨lw_p22, List.forall_mem_cons.mpr ⟨lw_p23, List.forall_mem_cons.mpr ⟨lw_p24, List.forall_mem_cons.mpr ⟨lw_p25, List.forall_mem_cons.mpr ⟨lw_p26, List.forall_mem_cons.mpr ⟨lw_p27, List.forall_mem_cons.mpr ⟨lw_p28, List.forall_mem_cons.mpr ⟨lw_p29, List.forall_mem_cons.mpr ⟨lw_p30, List.forall_mem_cons.mpr ⟨lw_p31, fun _ h => absurd h List.not_mem_nil⟩⟩⟩⟩⟩⟩⟩⟩⟩⟩⟩⟩⟩⟩⟩⟩
theorem lw_p32 : lw_okq (⟨"BurntLettersModel", "layFits", "()I"⟩, 29) := ⟨⟨by decide +kernel, by decide +kernel⟩, List.mem_of_getElem? (i := 552) (by decide +kernel), List.mem_of_getElem? (i := 837) (by decide +kernel), List.mem_of_getElem? (i := 838) (by decide +kernel)⟩
theorem lw_p33 : lw_okq (⟨"BurntLettersModel", "isToldBy", "(I)Z"⟩, 29) := ⟨⟨by decide +kernel, by decide +kernel⟩, List.mem_of_getElem? (i := 552) (by decide +kernel), List.mem_of_getElem? (i := 841) (by decide +kernel), List.mem_of_getElem? (i := 842) (by decide +kernel)⟩
theorem lw_p34 : lw_okq (⟨"BurntLettersModel", "livesNow", "()I"⟩, 29) := ⟨⟨by decide +kernel, by decide +kernel⟩, List.mem_of_getElem? (i := 552) (by decide +kernel), List.mem_of_getElem? (i := 845) (by decide +kernel), List.mem_of_getElem? (i := 846) (by decide +kernel)⟩
theorem lw_p35 : lw_okq (⟨"BurntLettersModel", "draw", "(I)I"⟩, 29) := ⟨⟨by decide +kernel, by decide +kernel⟩, List.mem_of_getElem? (i := 552) (by decide +kernel), List.mem_of_getElem? (i := 859) (by decide +kernel), List.mem_of_getElem? (i := 860) (by decide +kernel)⟩
theorem lw_p36 : lw_okq (⟨"BurntLettersModel", "lotOf", "(I)I"⟩, 29) := ⟨⟨by decide +kernel, by decide +kernel⟩, List.mem_of_getElem? (i := 552) (by decide +kernel), List.mem_of_getElem? (i := 867) (by decide +kernel), List.mem_of_getElem? (i := 868) (by decide +kernel)⟩
theorem lw_p37 : lw_okq (⟨"BurntLettersModel", "countOf", "(I)I"⟩, 29) := ⟨⟨by decide +kernel, by decide +kernel⟩, List.mem_of_getElem? (i := 552) (by decide +kernel), List.mem_of_getElem? (i := 886) (by decide +kernel), List.mem_of_getElem? (i := 887) (by decide +kernel)⟩
theorem lw_p38 : lw_okq (⟨"BurntLettersModel", "say", "(J)V"⟩, 29) := ⟨⟨by decide +kernel, by decide +kernel⟩, List.mem_of_getElem? (i := 552) (by decide +kernel), List.mem_of_getElem? (i := 895) (by decide +kernel), List.mem_of_getElem? (i := 896) (by decide +kernel)⟩
theorem lw_p39 : lw_okq (⟨"BurntLettersModel", "sayFile", "(I)V"⟩, 29) := ⟨⟨by decide +kernel, by decide +kernel⟩, List.mem_of_getElem? (i := 552) (by decide +kernel), List.mem_of_getElem? (i := 900) (by decide +kernel), List.mem_of_getElem? (i := 901) (by decide +kernel)⟩
def lw_privs_3 : List (MethodName × Nat) := [(⟨"BurntLettersModel", "layFits", "()I"⟩, 29), (⟨"BurntLettersModel", "isToldBy", "(I)Z"⟩, 29), (⟨"BurntLettersModel", "livesNow", "()I"⟩, 29), (⟨"BurntLettersModel", "draw", "(I)I"⟩, 29), (⟨"BurntLettersModel", "lotOf", "(I)I"⟩, 29), (⟨"BurntLettersModel", "countOf", "(I)I"⟩, 29), (⟨"BurntLettersModel", "say", "(J)V"⟩, 29), (⟨"BurntLettersModel", "sayFile", "(I)V"⟩, 29)]
theorem lw_r3 : ∀ q ∈ lw_privs_3, lw_okq q := List.forall_mem_cons.mpr ⟨lw_p32, List.forall_mem_cons.mpr ⟨lw_p33, List.forall_mem_cons.mpr ⟨lw_p34, List.forall_mem_cons.mpr ⟨lw_p35, List.forall_mem_cons.mpr ⟨lw_p36, List.forall_mem_cons.mpr ⟨lw_p37, List.forall_mem_cons.mpr ⟨lw_p38, List.forall_mem_cons.mpr ⟨lw_p39, fun _ h => absurd h List.not_mem_nil⟩⟩⟩⟩⟩⟩⟩⟩
def lw_privs : List (MethodName × Nat) := lw_privs_1 ++ (lw_privs_2 ++ (lw_privs_3))
def lw_tbl : List Cond := k2_sels lw_privs ++ tables_1
theorem lw_privs_ok : ∀ q ∈ lw_privs, lw_okq q := by
  show ∀ q ∈ lw_privs_1 ++ (lw_privs_2 ++ (lw_privs_3)), lw_okq q
  exact List.forall_mem_append.mpr ⟨lw_r1, List.forall_mem_append.mpr ⟨lw_r2, lw_r3⟩⟩
end
section
def RX0 : String := "BurntLetters$Archive"
def TX0 : u_T := fun k => match k with
  | 0 => ("BurntLetters$Archive", "law", "LBurntLetters$Law;", true)
  | 1 => ("BurntLetters$Archive", "kinds", "[I", true)
  | 2 => ("BurntLetters$Archive", "targets", "[I", true)
  | 3 => ("BurntLetters$Archive", "told", "[I", true)
  | 4 => ("BurntLetters$Archive", "files", "I", false)
  | 5 => ("BurntLetters$Archive", "shelf", "J", false)
  | 6 => ("BurntLetters$Archive", "years", "I", false)
  | _ => ("BurntLetters$Archive", "ashYears", "I", false)
def tyX0 : Nat → FieldType := fun k => match k with
  | 0 => .object "BurntLetters$Law"
  | 1 => .array .int
  | 2 => .array .int
  | 3 => .array .int
  | 4 => .int
  | 5 => .long
  | 6 => .int
  | _ => .int
abbrev wsX00 : List Cond := u_ws RX0 TX0 8
theorem nmX0 : ∀ a, a < 8 → ∀ b, b < 8 → a ≠ b → (TX0 a).2.1 ≠ (TX0 b).2.1 := by decide +kernel
theorem tyX0_ok : ∀ k, k < 8 → parseFieldDescriptor (TX0 k).2.2.1 = some (tyX0 k) := by decide +kernel
abbrev cX0_init : ByteArray := prog_2_method_1_code
def yX0_init : MethodName := ⟨RX0, "<init>", "(LBurntLetters$Law;)V"⟩
abbrev cX0_clear : ByteArray := prog_2_method_2_code
def yX0_clear : MethodName := ⟨RX0, "clear", "()V"⟩
abbrev cX0_become : ByteArray := prog_2_method_3_code
def yX0_become : MethodName := ⟨RX0, "become", "(LBurntLetters$Archive;)V"⟩
abbrev cX0_has : ByteArray := prog_2_method_4_code
def yX0_has : MethodName := ⟨RX0, "has", "(I)Z"⟩
abbrev cX0_kindOf : ByteArray := prog_2_method_5_code
def yX0_kindOf : MethodName := ⟨RX0, "kindOf", "(I)I"⟩
abbrev cX0_targetOf : ByteArray := prog_2_method_6_code
def yX0_targetOf : MethodName := ⟨RX0, "targetOf", "(I)I"⟩
abbrev cX0_toldOf : ByteArray := prog_2_method_7_code
def yX0_toldOf : MethodName := ⟨RX0, "toldOf", "(I)I"⟩
abbrev cX0_add : ByteArray := prog_2_method_8_code
def yX0_add : MethodName := ⟨RX0, "add", "(II)I"⟩
abbrev cX0_retarget : ByteArray := prog_2_method_9_code
def yX0_retarget : MethodName := ⟨RX0, "retarget", "(II)I"⟩
abbrev cX0_addAshes : ByteArray := prog_2_method_10_code
def yX0_addAshes : MethodName := ⟨RX0, "addAshes", "(I)I"⟩
abbrev cX0_clearAshes : ByteArray := prog_2_method_11_code
def yX0_clearAshes : MethodName := ⟨RX0, "clearAshes", "()I"⟩
abbrev cX0_hasRoom : ByteArray := prog_2_method_12_code
def yX0_hasRoom : MethodName := ⟨RX0, "hasRoom", "(JI)Z"⟩
abbrev cX0_mayCopy : ByteArray := prog_2_method_13_code
def yX0_mayCopy : MethodName := ⟨RX0, "mayCopy", "(JII)Z"⟩
abbrev cX0_mayRename : ByteArray := prog_2_method_14_code
def yX0_mayRename : MethodName := ⟨RX0, "mayRename", "(JIII)Z"⟩
abbrev cX0_passYear : ByteArray := prog_2_method_15_code
def yX0_passYear : MethodName := ⟨RX0, "passYear", "(I)I"⟩
abbrev cX0_burntDown : ByteArray := prog_2_method_16_code
def yX0_burntDown : MethodName := ⟨RX0, "burntDown", "(JI)J"⟩
abbrev cX0_isKept : ByteArray := prog_2_method_17_code
def yX0_isKept : MethodName := ⟨RX0, "isKept", "(JI)Z"⟩
abbrev cX0_isPointedTo : ByteArray := prog_2_method_18_code
def yX0_isPointedTo : MethodName := ⟨RX0, "isPointedTo", "(JI)Z"⟩
abbrev cX0_rumoursGrown : ByteArray := prog_2_method_19_code
def yX0_rumoursGrown : MethodName := ⟨RX0, "rumoursGrown", "(J)J"⟩
abbrev cX0_grown : ByteArray := prog_2_method_20_code
def yX0_grown : MethodName := ⟨RX0, "grown", "(JI)J"⟩
abbrev cX0_pointingNowhere : ByteArray := prog_2_method_21_code
def yX0_pointingNowhere : MethodName := ⟨RX0, "pointingNowhere", "()I"⟩
def RX1 : String := "BurntLetters$Foresight"
def TX1 : u_T := fun k => match k with
  | 0 => ("BurntLetters$Foresight", "law", "LBurntLetters$Law;", true)
  | _ => ("BurntLetters$Foresight", "archive", "LBurntLetters$Archive;", true)
def tyX1 : Nat → FieldType := fun k => match k with
  | 0 => .object "BurntLetters$Law"
  | _ => .object "BurntLetters$Archive"
abbrev wsX10 : List Cond := u_ws RX1 TX1 2
theorem nmX1 : ∀ a, a < 2 → ∀ b, b < 2 → a ≠ b → (TX1 a).2.1 ≠ (TX1 b).2.1 := by decide +kernel
theorem tyX1_ok : ∀ k, k < 2 → parseFieldDescriptor (TX1 k).2.2.1 = some (tyX1 k) := by decide +kernel
abbrev cX1_init : ByteArray := prog_3_method_1_code
def yX1_init : MethodName := ⟨RX1, "<init>", "(LBurntLetters$Law;LBurntLetters$Archive;)V"⟩
abbrev cX1_waysToLive : ByteArray := prog_3_method_2_code
def yX1_waysToLive : MethodName := ⟨RX1, "waysToLive", "(JII)I"⟩
abbrev cX1_bestCopy : ByteArray := prog_3_method_3_code
def yX1_bestCopy : MethodName := ⟨RX1, "bestCopy", "(II)I"⟩
abbrev cX1_fewestSure : ByteArray := prog_3_method_4_code
def yX1_fewestSure : MethodName := ⟨RX1, "fewestSure", "(II)I"⟩
abbrev cX1_isLeftForSure : ByteArray := prog_3_method_5_code
def yX1_isLeftForSure : MethodName := ⟨RX1, "isLeftForSure", "(III)Z"⟩
abbrev cX1_fewestRenamings : ByteArray := prog_3_method_6_code
def yX1_fewestRenamings : MethodName := ⟨RX1, "fewestRenamings", "(I)I"⟩
abbrev cX1_rowsThatFit : ByteArray := prog_3_method_7_code
def yX1_rowsThatFit : MethodName := ⟨RX1, "rowsThatFit", "()I"⟩
abbrev cX1_onlyLetterIn : ByteArray := prog_3_method_8_code
def yX1_onlyLetterIn : MethodName := ⟨RX1, "onlyLetterIn", "(I)I"⟩
abbrev cX1_rowsFrom : ByteArray := prog_3_method_9_code
def yX1_rowsFrom : MethodName := ⟨RX1, "rowsFrom", "(JIII)I"⟩
abbrev cX1_isAsTold : ByteArray := prog_3_method_10_code
def yX1_isAsTold : MethodName := ⟨RX1, "isAsTold", "(JI)Z"⟩
abbrev cX1_nothingToldFrom : ByteArray := prog_3_method_11_code
def yX1_nothingToldFrom : MethodName := ⟨RX1, "nothingToldFrom", "(I)Z"⟩
def RX2 : String := "BurntLetters$Kind"
def TX2 : u_T := fun k => match k with
  | _ => ("", "", "", false)
def tyX2 : Nat → FieldType := fun k => match k with
  | _ => .int
abbrev wsX20 : List Cond := u_ws RX2 TX2 0
theorem nmX2 : ∀ a, a < 0 → ∀ b, b < 0 → a ≠ b → (TX2 a).2.1 ≠ (TX2 b).2.1 := by decide +kernel
theorem tyX2_ok : ∀ k, k < 0 → parseFieldDescriptor (TX2 k).2.2.1 = some (tyX2 k) := by decide +kernel
abbrev cX2_isKind : ByteArray := prog_4_method_2_code
def yX2_isKind : MethodName := ⟨RX2, "isKind", "(I)Z"⟩
abbrev cX2_isSuch : ByteArray := prog_4_method_3_code
def yX2_isSuch : MethodName := ⟨RX2, "isSuch", "(II)Z"⟩
abbrev cX2_namesOf : ByteArray := prog_4_method_4_code
def yX2_namesOf : MethodName := ⟨RX2, "namesOf", "(I)I"⟩
abbrev cX2_mostKept : ByteArray := prog_4_method_5_code
def yX2_mostKept : MethodName := ⟨RX2, "mostKept", "(I)I"⟩
abbrev cX2_lostWith : ByteArray := prog_4_method_6_code
def yX2_lostWith : MethodName := ⟨RX2, "lostWith", "(II)I"⟩
def RX3 : String := "BurntLetters$Law"
def TX3 : u_T := fun k => match k with
  | 0 => ("BurntLetters$Law", "tenths", "[I", true)
  | _ => ("BurntLetters$Law", "room", "I", false)
def tyX3 : Nat → FieldType := fun k => match k with
  | 0 => .array .int
  | _ => .int
abbrev wsX30 : List Cond := u_ws RX3 TX3 2
theorem nmX3 : ∀ a, a < 2 → ∀ b, b < 2 → a ≠ b → (TX3 a).2.1 ≠ (TX3 b).2.1 := by decide +kernel
theorem tyX3_ok : ∀ k, k < 2 → parseFieldDescriptor (TX3 k).2.2.1 = some (tyX3 k) := by decide +kernel
abbrev cX3_init : ByteArray := prog_5_method_1_code
def yX3_init : MethodName := ⟨RX3, "<init>", "()V"⟩
abbrev cX3_read : ByteArray := prog_5_method_2_code
def yX3_read : MethodName := ⟨RX3, "read", "(LBurntLetters$Page;)V"⟩
abbrev cX3_stands : ByteArray := prog_5_method_3_code
def yX3_stands : MethodName := ⟨RX3, "stands", "()Z"⟩
abbrev cX3_tenthsOf : ByteArray := prog_5_method_4_code
def yX3_tenthsOf : MethodName := ⟨RX3, "tenthsOf", "(I)I"⟩
abbrev cX3_mayBurn : ByteArray := prog_5_method_5_code
def yX3_mayBurn : MethodName := ⟨RX3, "mayBurn", "(I)Z"⟩
abbrev cX3_lettersThatMayBurn : ByteArray := prog_5_method_6_code
def yX3_lettersThatMayBurn : MethodName := ⟨RX3, "lettersThatMayBurn", "()I"⟩
abbrev cX3_letterByDraw : ByteArray := prog_5_method_7_code
def yX3_letterByDraw : MethodName := ⟨RX3, "letterByDraw", "(I)I"⟩
def RX4 : String := "BurntLetters$Page"
def TX4 : u_T := fun k => match k with
  | 0 => ("BurntLetters$Page", "codes", "[I", true)
  | _ => ("BurntLetters$Page", "size", "I", false)
def tyX4 : Nat → FieldType := fun k => match k with
  | 0 => .array .int
  | _ => .int
abbrev wsX40 : List Cond := u_ws RX4 TX4 2
theorem nmX4 : ∀ a, a < 2 → ∀ b, b < 2 → a ≠ b → (TX4 a).2.1 ≠ (TX4 b).2.1 := by decide +kernel
theorem tyX4_ok : ∀ k, k < 2 → parseFieldDescriptor (TX4 k).2.2.1 = some (tyX4 k) := by decide +kernel
abbrev cX4_init : ByteArray := prog_6_method_1_code
def yX4_init : MethodName := ⟨RX4, "<init>", "()V"⟩
abbrev cX4_isFull : ByteArray := prog_6_method_2_code
def yX4_isFull : MethodName := ⟨RX4, "isFull", "()Z"⟩
abbrev cX4_append : ByteArray := prog_6_method_3_code
def yX4_append : MethodName := ⟨RX4, "append", "(I)I"⟩
abbrev cX4_clear : ByteArray := prog_6_method_4_code
def yX4_clear : MethodName := ⟨RX4, "clear", "()I"⟩
abbrev cX4_codeAt : ByteArray := prog_6_method_5_code
def yX4_codeAt : MethodName := ⟨RX4, "codeAt", "(I)I"⟩
abbrev cX4_digitAt : ByteArray := prog_6_method_6_code
def yX4_digitAt : MethodName := ⟨RX4, "digitAt", "(I)I"⟩
abbrev cX4_isLaw : ByteArray := prog_6_method_7_code
def yX4_isLaw : MethodName := ⟨RX4, "isLaw", "()Z"⟩
abbrev cX4_firstFault : ByteArray := prog_6_method_8_code
def yX4_firstFault : MethodName := ⟨RX4, "firstFault", "()I"⟩
abbrev cX4_mayStand : ByteArray := prog_6_method_9_code
def yX4_mayStand : MethodName := ⟨RX4, "mayStand", "(II)Z"⟩
def RX5 : String := "BurntLetters$Shelf"
def TX5 : u_T := fun k => match k with
  | _ => ("", "", "", false)
def tyX5 : Nat → FieldType := fun k => match k with
  | _ => .int
abbrev wsX50 : List Cond := u_ws RX5 TX5 0
theorem nmX5 : ∀ a, a < 0 → ∀ b, b < 0 → a ≠ b → (TX5 a).2.1 ≠ (TX5 b).2.1 := by decide +kernel
theorem tyX5_ok : ∀ k, k < 0 → parseFieldDescriptor (TX5 k).2.2.1 = some (tyX5 k) := by decide +kernel
abbrev cX5_leavesOf : ByteArray := prog_7_method_2_code
def yX5_leavesOf : MethodName := ⟨RX5, "leavesOf", "(JI)I"⟩
abbrev cX5_keptOf : ByteArray := prog_7_method_3_code
def yX5_keptOf : MethodName := ⟨RX5, "keptOf", "(JI)I"⟩
abbrev cX5_lives : ByteArray := prog_7_method_4_code
def yX5_lives : MethodName := ⟨RX5, "lives", "(JI)Z"⟩
abbrev cX5_hasLeaf : ByteArray := prog_7_method_5_code
def yX5_hasLeaf : MethodName := ⟨RX5, "hasLeaf", "(JII)Z"⟩
abbrev cX5_living : ByteArray := prog_7_method_6_code
def yX5_living : MethodName := ⟨RX5, "living", "(J)I"⟩
abbrev cX5_fullness : ByteArray := prog_7_method_7_code
def yX5_fullness : MethodName := ⟨RX5, "fullness", "(JI)I"⟩
abbrev cX5_allLeaves : ByteArray := prog_7_method_8_code
def yX5_allLeaves : MethodName := ⟨RX5, "allLeaves", "(J)I"⟩
abbrev cX5_turned : ByteArray := prog_7_method_9_code
def yX5_turned : MethodName := ⟨RX5, "turned", "(JII)J"⟩
abbrev cX5_moved : ByteArray := prog_7_method_10_code
def yX5_moved : MethodName := ⟨RX5, "moved", "(JIII)J"⟩
abbrev cX5_without : ByteArray := prog_7_method_11_code
def yX5_without : MethodName := ⟨RX5, "without", "(JII)J"⟩
abbrev cX5_keptOnceMore : ByteArray := prog_7_method_12_code
def yX5_keptOnceMore : MethodName := ⟨RX5, "keptOnceMore", "(JI)J"⟩
def RX6 : String := "BurntLetters"
def TX6 : u_T := fun k => match k with
  | 0 => ("BurntLetters", "page", "LBurntLetters$Page;", true)
  | 1 => ("BurntLetters", "rules", "LBurntLetters$Law;", true)
  | 2 => ("BurntLetters", "archive", "LBurntLetters$Archive;", true)
  | 3 => ("BurntLetters", "kept", "LBurntLetters$Archive;", true)
  | 4 => ("BurntLetters", "foresight", "LBurntLetters$Foresight;", true)
  | 5 => ("BurntLetters", "imageKept", "Z", false)
  | 6 => ("BurntLetters", "lawsRead", "I", false)
  | 7 => ("BurntLetters", "sureDone", "I", false)
  | _ => ("BurntLetters", "movingDone", "I", false)
def tyX6 : Nat → FieldType := fun k => match k with
  | 0 => .object "BurntLetters$Page"
  | 1 => .object "BurntLetters$Law"
  | 2 => .object "BurntLetters$Archive"
  | 3 => .object "BurntLetters$Archive"
  | 4 => .object "BurntLetters$Foresight"
  | 5 => .boolean
  | 6 => .int
  | 7 => .int
  | _ => .int
abbrev wsX60 : List Cond := u_ws RX6 TX6 9
theorem nmX6 : ∀ a, a < 9 → ∀ b, b < 9 → a ≠ b → (TX6 a).2.1 ≠ (TX6 b).2.1 := by decide +kernel
theorem tyX6_ok : ∀ k, k < 9 → parseFieldDescriptor (TX6 k).2.2.1 = some (tyX6 k) := by decide +kernel
abbrev cX6_init : ByteArray := prog_1_method_1_code
def yX6_init : MethodName := ⟨RX6, "<init>", "()V"⟩
abbrev cX6_letter : ByteArray := prog_1_method_2_code
def yX6_letter : MethodName := ⟨RX6, "letter", "(I)I"⟩
abbrev cX6_blank : ByteArray := prog_1_method_3_code
def yX6_blank : MethodName := ⟨RX6, "blank", "()I"⟩
abbrev cX6_fault : ByteArray := prog_1_method_4_code
def yX6_fault : MethodName := ⟨RX6, "fault", "()I"⟩
abbrev cX6_law : ByteArray := prog_1_method_5_code
def yX6_law : MethodName := ⟨RX6, "law", "()I"⟩
abbrev cX6_under : ByteArray := prog_1_method_6_code
def yX6_under : MethodName := ⟨RX6, "under", "(II)I"⟩
abbrev cX6_file : ByteArray := prog_1_method_7_code
def yX6_file : MethodName := ⟨RX6, "file", "(II)I"⟩
abbrev cX6_about : ByteArray := prog_1_method_8_code
def yX6_about : MethodName := ⟨RX6, "about", "(II)I"⟩
abbrev cX6_as : ByteArray := prog_1_method_9_code
def yX6_as : MethodName := ⟨RX6, "as", "(II)I"⟩
abbrev cX6_copy : ByteArray := prog_1_method_10_code
def yX6_copy : MethodName := ⟨RX6, "copy", "(II)I"⟩
abbrev cX6_rename : ByteArray := prog_1_method_11_code
def yX6_rename : MethodName := ⟨RX6, "rename", "(III)I"⟩
abbrev cX6_point : ByteArray := prog_1_method_12_code
def yX6_point : MethodName := ⟨RX6, "point", "(II)I"⟩
abbrev cX6_burn : ByteArray := prog_1_method_13_code
def yX6_burn : MethodName := ⟨RX6, "burn", "(I)I"⟩
abbrev cX6_odds : ByteArray := prog_1_method_14_code
def yX6_odds : MethodName := ⟨RX6, "odds", "(III)I"⟩
abbrev cX6_where : ByteArray := prog_1_method_15_code
def yX6_where : MethodName := ⟨RX6, "where", "(II)I"⟩
abbrev cX6_sure : ByteArray := prog_1_method_16_code
def yX6_sure : MethodName := ⟨RX6, "sure", "(III)I"⟩
abbrev cX6_nowhere : ByteArray := prog_1_method_17_code
def yX6_nowhere : MethodName := ⟨RX6, "nowhere", "()I"⟩
abbrev cX6_moving : ByteArray := prog_1_method_18_code
def yX6_moving : MethodName := ⟨RX6, "moving", "(I)I"⟩
abbrev cX6_ashes : ByteArray := prog_1_method_19_code
def yX6_ashes : MethodName := ⟨RX6, "ashes", "(I)I"⟩
abbrev cX6_forget : ByteArray := prog_1_method_20_code
def yX6_forget : MethodName := ⟨RX6, "forget", "()I"⟩
abbrev cX6_fits : ByteArray := prog_1_method_21_code
def yX6_fits : MethodName := ⟨RX6, "fits", "()I"⟩
abbrev cX6_burnt : ByteArray := prog_1_method_22_code
def yX6_burnt : MethodName := ⟨RX6, "burnt", "(I)I"⟩
abbrev cX6_years : ByteArray := prog_1_method_23_code
def yX6_years : MethodName := ⟨RX6, "years", "(III)I"⟩
abbrev cX6_image : ByteArray := prog_1_method_24_code
def yX6_image : MethodName := ⟨RX6, "image", "()I"⟩
abbrev cX6_restore : ByteArray := prog_1_method_25_code
def yX6_restore : MethodName := ⟨RX6, "restore", "()I"⟩
abbrev cX6_count : ByteArray := prog_1_method_26_code
def yX6_count : MethodName := ⟨RX6, "count", "(I)I"⟩
abbrev cX6_digest : ByteArray := prog_1_method_27_code
def yX6_digest : MethodName := ⟨RX6, "digest", "()J"⟩
abbrev cX6_mixedWithFile : ByteArray := prog_1_method_28_code
def yX6_mixedWithFile : MethodName := ⟨RX6, "mixedWithFile", "(JI)J"⟩
abbrev cX6_mixed : ByteArray := prog_1_method_29_code
def yX6_mixed : MethodName := ⟨RX6, "mixed", "(JJ)J"⟩
abbrev cX6_isLetter : ByteArray := prog_1_method_30_code
def yX6_isLetter : MethodName := ⟨RX6, "isLetter", "(I)Z"⟩
abbrev cX6_within : ByteArray := prog_1_method_31_code
def yX6_within : MethodName := ⟨RX6, "within", "(III)Z"⟩
abbrev cX6_power : ByteArray := prog_1_method_32_code
def yX6_power : MethodName := ⟨RX6, "power", "(II)I"⟩
abbrev cX6_inLowestTerms : ByteArray := prog_1_method_33_code
def yX6_inLowestTerms : MethodName := ⟨RX6, "inLowestTerms", "(III)I"⟩
abbrev cX6_nextSeed : ByteArray := prog_1_method_34_code
def yX6_nextSeed : MethodName := ⟨RX6, "nextSeed", "(I)I"⟩
def RX7 : String := "BurntLettersModel"
def TX7 : u_T := fun k => match k with
  | 0 => ("BurntLettersModel", "page", "[I", true)
  | 1 => ("BurntLettersModel", "pageMany", "I", false)
  | 2 => ("BurntLettersModel", "room", "I", false)
  | 3 => ("BurntLettersModel", "yearNow", "I", false)
  | 4 => ("BurntLettersModel", "lawsRead", "I", false)
  | 5 => ("BurntLettersModel", "lots", "[I", true)
  | 6 => ("BurntLettersModel", "files", "I", false)
  | 7 => ("BurntLettersModel", "rows", "[I", true)
  | 8 => ("BurntLettersModel", "leaves", "[I", true)
  | 9 => ("BurntLettersModel", "kept", "[I", true)
  | 10 => ("BurntLettersModel", "now", "[I", true)
  | 11 => ("BurntLettersModel", "nowKept", "[I", true)
  | 12 => ("BurntLettersModel", "ahead", "[I", true)
  | 13 => ("BurntLettersModel", "sureMany", "I", false)
  | 14 => ("BurntLettersModel", "movingMany", "I", false)
  | 15 => ("BurntLettersModel", "next", "[I", true)
  | 16 => ("BurntLettersModel", "ashMany", "I", false)
  | 17 => ("BurntLettersModel", "ashRows", "[I", true)
  | 18 => ("BurntLettersModel", "burns", "[I", true)
  | 19 => ("BurntLettersModel", "seedNow", "I", false)
  | 20 => ("BurntLettersModel", "keptLaw", "I", false)
  | 21 => ("BurntLettersModel", "keptFiles", "I", false)
  | 22 => ("BurntLettersModel", "keptYear", "I", false)
  | 23 => ("BurntLettersModel", "keptAshMany", "I", false)
  | 24 => ("BurntLettersModel", "keptRows", "[I", true)
  | 25 => ("BurntLettersModel", "keptLeaves", "[I", true)
  | 26 => ("BurntLettersModel", "keptKept", "[I", true)
  | 27 => ("BurntLettersModel", "keptAshes", "[I", true)
  | _ => ("BurntLettersModel", "hash", "J", false)
def tyX7 : Nat → FieldType := fun k => match k with
  | 0 => .array .int
  | 1 => .int
  | 2 => .int
  | 3 => .int
  | 4 => .int
  | 5 => .array .int
  | 6 => .int
  | 7 => .array .int
  | 8 => .array .int
  | 9 => .array .int
  | 10 => .array .int
  | 11 => .array .int
  | 12 => .array .int
  | 13 => .int
  | 14 => .int
  | 15 => .array .int
  | 16 => .int
  | 17 => .array .int
  | 18 => .array .int
  | 19 => .int
  | 20 => .int
  | 21 => .int
  | 22 => .int
  | 23 => .int
  | 24 => .array .int
  | 25 => .array .int
  | 26 => .array .int
  | 27 => .array .int
  | _ => .long
abbrev wsX70 : List Cond := u_ws RX7 TX7 29
theorem nmX7 : ∀ a, a < 29 → ∀ b, b < 29 → a ≠ b → (TX7 a).2.1 ≠ (TX7 b).2.1 := by decide +kernel
theorem tyX7_ok : ∀ k, k < 29 → parseFieldDescriptor (TX7 k).2.2.1 = some (tyX7 k) := by decide +kernel
abbrev cX7_init : ByteArray := prog_9_method_1_code
def yX7_init : MethodName := ⟨RX7, "<init>", "()V"⟩
abbrev cX7_in : ByteArray := prog_9_method_2_code
def yX7_in : MethodName := ⟨RX7, "in", "(JJJ)Z"⟩
abbrev cX7_ones : ByteArray := prog_9_method_3_code
def yX7_ones : MethodName := ⟨RX7, "ones", "(I)I"⟩
abbrev cX7_letter : ByteArray := prog_9_method_4_code
def yX7_letter : MethodName := ⟨RX7, "letter", "(I)I"⟩
abbrev cX7_blank : ByteArray := prog_9_method_5_code
def yX7_blank : MethodName := ⟨RX7, "blank", "()I"⟩
abbrev cX7_isGood : ByteArray := prog_9_method_6_code
def yX7_isGood : MethodName := ⟨RX7, "isGood", "(III)Z"⟩
abbrev cX7_faultOf : ByteArray := prog_9_method_7_code
def yX7_faultOf : MethodName := ⟨RX7, "faultOf", "()I"⟩
abbrev cX7_fault : ByteArray := prog_9_method_8_code
def yX7_fault : MethodName := ⟨RX7, "fault", "()I"⟩
abbrev cX7_law : ByteArray := prog_9_method_9_code
def yX7_law : MethodName := ⟨RX7, "law", "()I"⟩
abbrev cX7_lacks : ByteArray := prog_9_method_10_code
def yX7_lacks : MethodName := ⟨RX7, "lacks", "()Z"⟩
abbrev cX7_isLetter : ByteArray := prog_9_method_11_code
def yX7_isLetter : MethodName := ⟨RX7, "isLetter", "(I)Z"⟩
abbrev cX7_isFile : ByteArray := prog_9_method_12_code
def yX7_isFile : MethodName := ⟨RX7, "isFile", "(I)Z"⟩
abbrev cX7_fullness : ByteArray := prog_9_method_13_code
def yX7_fullness : MethodName := ⟨RX7, "fullness", "([II)I"⟩
abbrev cX7_tellUnder : ByteArray := prog_9_method_14_code
def yX7_tellUnder : MethodName := ⟨RX7, "tellUnder", "(II)I"⟩
abbrev cX7_under : ByteArray := prog_9_method_15_code
def yX7_under : MethodName := ⟨RX7, "under", "(II)I"⟩
abbrev cX7_file : ByteArray := prog_9_method_16_code
def yX7_file : MethodName := ⟨RX7, "file", "(II)I"⟩
abbrev cX7_namesOf : ByteArray := prog_9_method_17_code
def yX7_namesOf : MethodName := ⟨RX7, "namesOf", "(I)I"⟩
abbrev cX7_tell : ByteArray := prog_9_method_18_code
def yX7_tell : MethodName := ⟨RX7, "tell", "(II)I"⟩
abbrev cX7_about : ByteArray := prog_9_method_19_code
def yX7_about : MethodName := ⟨RX7, "about", "(II)I"⟩
abbrev cX7_as : ByteArray := prog_9_method_20_code
def yX7_as : MethodName := ⟨RX7, "as", "(II)I"⟩
abbrev cX7_mayCopy : ByteArray := prog_9_method_21_code
def yX7_mayCopy : MethodName := ⟨RX7, "mayCopy", "(II)Z"⟩
abbrev cX7_copy : ByteArray := prog_9_method_22_code
def yX7_copy : MethodName := ⟨RX7, "copy", "(II)I"⟩
abbrev cX7_mayRename : ByteArray := prog_9_method_23_code
def yX7_mayRename : MethodName := ⟨RX7, "mayRename", "([IIII)Z"⟩
abbrev cX7_rename : ByteArray := prog_9_method_24_code
def yX7_rename : MethodName := ⟨RX7, "rename", "(III)I"⟩
abbrev cX7_point : ByteArray := prog_9_method_25_code
def yX7_point : MethodName := ⟨RX7, "point", "(II)I"⟩
abbrev cX7_asItIs : ByteArray := prog_9_method_26_code
def yX7_asItIs : MethodName := ⟨RX7, "asItIs", "()V"⟩
abbrev cX7_isPointedAt : ByteArray := prog_9_method_27_code
def yX7_isPointedAt : MethodName := ⟨RX7, "isPointedAt", "(I)Z"⟩
abbrev cX7_burnsOf : ByteArray := prog_9_method_28_code
def yX7_burnsOf : MethodName := ⟨RX7, "burnsOf", "(II)I"⟩
abbrev cX7_spread : ByteArray := prog_9_method_29_code
def yX7_spread : MethodName := ⟨RX7, "spread", "(I)V"⟩
abbrev cX7_pass : ByteArray := prog_9_method_30_code
def yX7_pass : MethodName := ⟨RX7, "pass", "(I)I"⟩
abbrev cX7_burn : ByteArray := prog_9_method_31_code
def yX7_burn : MethodName := ⟨RX7, "burn", "(I)I"⟩
abbrev cX7_power : ByteArray := prog_9_method_32_code
def yX7_power : MethodName := ⟨RX7, "power", "(II)I"⟩
abbrev cX7_livesOf : ByteArray := prog_9_method_33_code
def yX7_livesOf : MethodName := ⟨RX7, "livesOf", "(II)I"⟩
abbrev cX7_term : ByteArray := prog_9_method_34_code
def yX7_term : MethodName := ⟨RX7, "term", "(III)I"⟩
abbrev cX7_oddsOf : ByteArray := prog_9_method_35_code
def yX7_oddsOf : MethodName := ⟨RX7, "oddsOf", "(III)I"⟩
abbrev cX7_odds : ByteArray := prog_9_method_36_code
def yX7_odds : MethodName := ⟨RX7, "odds", "(III)I"⟩
abbrev cX7_whereOf : ByteArray := prog_9_method_37_code
def yX7_whereOf : MethodName := ⟨RX7, "whereOf", "(II)I"⟩
abbrev cX7_where : ByteArray := prog_9_method_38_code
def yX7_where : MethodName := ⟨RX7, "where", "(II)I"⟩
abbrev cX7_isSure : ByteArray := prog_9_method_39_code
def yX7_isSure : MethodName := ⟨RX7, "isSure", "(IZI)Z"⟩
abbrev cX7_sure : ByteArray := prog_9_method_40_code
def yX7_sure : MethodName := ⟨RX7, "sure", "(III)I"⟩
abbrev cX7_nowhereOf : ByteArray := prog_9_method_41_code
def yX7_nowhereOf : MethodName := ⟨RX7, "nowhereOf", "()I"⟩
abbrev cX7_nowhere : ByteArray := prog_9_method_42_code
def yX7_nowhere : MethodName := ⟨RX7, "nowhere", "()I"⟩
abbrev cX7_above : ByteArray := prog_9_method_43_code
def yX7_above : MethodName := ⟨RX7, "above", "(I)I"⟩
abbrev cX7_renameNow : ByteArray := prog_9_method_44_code
def yX7_renameNow : MethodName := ⟨RX7, "renameNow", "(III)V"⟩
abbrev cX7_isMovedBy : ByteArray := prog_9_method_45_code
def yX7_isMovedBy : MethodName := ⟨RX7, "isMovedBy", "(II)Z"⟩
abbrev cX7_moving : ByteArray := prog_9_method_46_code
def yX7_moving : MethodName := ⟨RX7, "moving", "(I)I"⟩
abbrev cX7_ashes : ByteArray := prog_9_method_47_code
def yX7_ashes : MethodName := ⟨RX7, "ashes", "(I)I"⟩
abbrev cX7_forget : ByteArray := prog_9_method_48_code
def yX7_forget : MethodName := ⟨RX7, "forget", "()I"⟩
abbrev cX7_livesNow : ByteArray := prog_9_method_49_code
def yX7_livesNow : MethodName := ⟨RX7, "livesNow", "()I"⟩
abbrev cX7_isToldBy : ByteArray := prog_9_method_50_code
def yX7_isToldBy : MethodName := ⟨RX7, "isToldBy", "(I)Z"⟩
abbrev cX7_layFits : ByteArray := prog_9_method_51_code
def yX7_layFits : MethodName := ⟨RX7, "layFits", "()I"⟩
abbrev cX7_fits : ByteArray := prog_9_method_52_code
def yX7_fits : MethodName := ⟨RX7, "fits", "()I"⟩
abbrev cX7_burnt : ByteArray := prog_9_method_53_code
def yX7_burnt : MethodName := ⟨RX7, "burnt", "(I)I"⟩
abbrev cX7_draw : ByteArray := prog_9_method_54_code
def yX7_draw : MethodName := ⟨RX7, "draw", "(I)I"⟩
abbrev cX7_lotOf : ByteArray := prog_9_method_55_code
def yX7_lotOf : MethodName := ⟨RX7, "lotOf", "(I)I"⟩
abbrev cX7_years : ByteArray := prog_9_method_56_code
def yX7_years : MethodName := ⟨RX7, "years", "(III)I"⟩
abbrev cX7_copyTo : ByteArray := prog_9_method_57_code
def yX7_copyTo : MethodName := ⟨RX7, "copyTo", "([I[I)V"⟩
abbrev cX7_image : ByteArray := prog_9_method_58_code
def yX7_image : MethodName := ⟨RX7, "image", "()I"⟩
abbrev cX7_restore : ByteArray := prog_9_method_59_code
def yX7_restore : MethodName := ⟨RX7, "restore", "()I"⟩
abbrev cX7_countOf : ByteArray := prog_9_method_60_code
def yX7_countOf : MethodName := ⟨RX7, "countOf", "(I)I"⟩
abbrev cX7_count : ByteArray := prog_9_method_61_code
def yX7_count : MethodName := ⟨RX7, "count", "(I)I"⟩
abbrev cX7_say : ByteArray := prog_9_method_62_code
def yX7_say : MethodName := ⟨RX7, "say", "(J)V"⟩
abbrev cX7_sayFile : ByteArray := prog_9_method_63_code
def yX7_sayFile : MethodName := ⟨RX7, "sayFile", "(I)V"⟩
abbrev cX7_digest : ByteArray := prog_9_method_64_code
def yX7_digest : MethodName := ⟨RX7, "digest", "()J"⟩
def RJ6 : String := "java/lang/Integer"
def TJ6 : u_T := fun k => match k with
  | _ => ("", "", "", false)
def tyJ6 : Nat → FieldType := fun k => match k with
  | _ => .int
abbrev wsJ60 : List Cond := u_ws RJ6 TJ6 0
theorem nmJ6 : ∀ a, a < 0 → ∀ b, b < 0 → a ≠ b → (TJ6 a).2.1 ≠ (TJ6 b).2.1 := by decide +kernel
theorem tyJ6_ok : ∀ k, k < 0 → parseFieldDescriptor (TJ6 k).2.2.1 = some (tyJ6 k) := by decide +kernel
abbrev cJ6_bitCount_0f7a4 : ByteArray := prog_10_method_49_code
def yJ6_bitCount_0f7a4 : MethodName := ⟨RJ6, "bitCount", "(I)I"⟩
def RJ13 : String := "java/lang/Long"
def TJ13 : u_T := fun k => match k with
  | _ => ("", "", "", false)
def tyJ13 : Nat → FieldType := fun k => match k with
  | _ => .int
abbrev wsJ130 : List Cond := u_ws RJ13 TJ13 0
theorem nmJ13 : ∀ a, a < 0 → ∀ b, b < 0 → a ≠ b → (TJ13 a).2.1 ≠ (TJ13 b).2.1 := by decide +kernel
theorem tyJ13_ok : ∀ k, k < 0 → parseFieldDescriptor (TJ13 k).2.2.1 = some (tyJ13 k) := by decide +kernel
abbrev cJ13_bitCount_95d88 : ByteArray := prog_11_method_50_code
def yJ13_bitCount_95d88 : MethodName := ⟨RJ13, "bitCount", "(J)I"⟩
def RJ9 : String := "java/lang/Math"
def TJ9 : u_T := fun k => match k with
  | _ => ("", "", "", false)
def tyJ9 : Nat → FieldType := fun k => match k with
  | _ => .int
abbrev wsJ90 : List Cond := u_ws RJ9 TJ9 0
theorem nmJ9 : ∀ a, a < 0 → ∀ b, b < 0 → a ≠ b → (TJ9 a).2.1 ≠ (TJ9 b).2.1 := by decide +kernel
theorem tyJ9_ok : ∀ k, k < 0 → parseFieldDescriptor (TJ9 k).2.2.1 = some (tyJ9 k) := by decide +kernel
abbrev cJ9_max_7cf53 : ByteArray := prog_12_method_65_code
def yJ9_max_7cf53 : MethodName := ⟨RJ9, "max", "(II)I"⟩
def RJ10 : String := "java/lang/System"
def TJ10 : u_T := fun k => match k with
  | _ => ("", "", "", false)
def tyJ10 : Nat → FieldType := fun k => match k with
  | _ => .int
abbrev wsJ100 : List Cond := u_ws RJ10 TJ10 0
theorem nmJ10 : ∀ a, a < 0 → ∀ b, b < 0 → a ≠ b → (TJ10 a).2.1 ≠ (TJ10 b).2.1 := by decide +kernel
theorem tyJ10_ok : ∀ k, k < 0 → parseFieldDescriptor (TJ10 k).2.2.1 = some (tyJ10 k) := by decide +kernel
def RL : String := "BurntLettersLaw"
abbrev cL_law : ByteArray := code
def yL_law : MethodName := ⟨RL, "law", "([I)Z"⟩
abbrev vwCl : List vw_C := [(RX0, TX0, 8), (RX1, TX1, 2), (RX3, TX3, 2), (RX4, TX4, 2), (RX6, TX6, 9), (RX7, TX7, 29)]
end
section
theorem dX0_init_0 : decode cX0_init 0 = .ok (.aload_n 0, 1) := by decide +kernel
theorem dX0_init_1 : decode cX0_init 1 = .ok (.invokespecial 3, 3) := by decide +kernel
theorem dX0_init_4 : decode cX0_init 4 = .ok (.aload_n 0, 1) := by decide +kernel
theorem dX0_init_5 : decode cX0_init 5 = .ok (.iconst 5, 1) := by decide +kernel
theorem dX0_init_6 : decode cX0_init 6 = .ok (.newarray .int, 2) := by decide +kernel
theorem dX0_init_8 : decode cX0_init 8 = .ok (.putfield 9, 3) := by decide +kernel
theorem dX0_init_11 : decode cX0_init 11 = .ok (.aload_n 0, 1) := by decide +kernel
theorem dX0_init_12 : decode cX0_init 12 = .ok (.iconst 5, 1) := by decide +kernel
theorem dX0_init_13 : decode cX0_init 13 = .ok (.newarray .int, 2) := by decide +kernel
theorem dX0_init_15 : decode cX0_init 15 = .ok (.putfield 15, 3) := by decide +kernel
theorem dX0_init_18 : decode cX0_init 18 = .ok (.aload_n 0, 1) := by decide +kernel
theorem dX0_init_19 : decode cX0_init 19 = .ok (.iconst 5, 1) := by decide +kernel
theorem dX0_init_20 : decode cX0_init 20 = .ok (.newarray .int, 2) := by decide +kernel
theorem dX0_init_22 : decode cX0_init 22 = .ok (.putfield 18, 3) := by decide +kernel
theorem dX0_init_25 : decode cX0_init 25 = .ok (.aload_n 0, 1) := by decide +kernel
theorem dX0_init_26 : decode cX0_init 26 = .ok (.aload_n 1, 1) := by decide +kernel
theorem dX0_init_27 : decode cX0_init 27 = .ok (.putfield 21, 3) := by decide +kernel
theorem dX0_init_30 : decode cX0_init 30 = .ok (.return_, 1) := by decide +kernel
theorem dX0_clear_0 : decode cX0_clear 0 = .ok (.aload_n 0, 1) := by decide +kernel
theorem dX0_clear_1 : decode cX0_clear 1 = .ok (.iconst 0, 1) := by decide +kernel
theorem dX0_clear_2 : decode cX0_clear 2 = .ok (.putfield 25, 3) := by decide +kernel
theorem dX0_clear_5 : decode cX0_clear 5 = .ok (.aload_n 0, 1) := by decide +kernel
theorem dX0_clear_6 : decode cX0_clear 6 = .ok (.lconst 0, 1) := by decide +kernel
theorem dX0_clear_7 : decode cX0_clear 7 = .ok (.putfield 29, 3) := by decide +kernel
theorem dX0_clear_10 : decode cX0_clear 10 = .ok (.aload_n 0, 1) := by decide +kernel
theorem dX0_clear_11 : decode cX0_clear 11 = .ok (.iconst 0, 1) := by decide +kernel
theorem dX0_clear_12 : decode cX0_clear 12 = .ok (.putfield 33, 3) := by decide +kernel
theorem dX0_clear_15 : decode cX0_clear 15 = .ok (.aload_n 0, 1) := by decide +kernel
theorem dX0_clear_16 : decode cX0_clear 16 = .ok (.iconst 0, 1) := by decide +kernel
theorem dX0_clear_17 : decode cX0_clear 17 = .ok (.putfield 36, 3) := by decide +kernel
theorem dX0_clear_20 : decode cX0_clear 20 = .ok (.return_, 1) := by decide +kernel
theorem dX0_become_0 : decode cX0_become 0 = .ok (.aload_n 1, 1) := by decide +kernel
theorem dX0_become_1 : decode cX0_become 1 = .ok (.getfield 9, 3) := by decide +kernel
theorem dX0_become_4 : decode cX0_become 4 = .ok (.iconst 0, 1) := by decide +kernel
theorem dX0_become_5 : decode cX0_become 5 = .ok (.aload_n 0, 1) := by decide +kernel
theorem dX0_become_6 : decode cX0_become 6 = .ok (.getfield 9, 3) := by decide +kernel
theorem dX0_become_9 : decode cX0_become 9 = .ok (.iconst 0, 1) := by decide +kernel
theorem dX0_become_10 : decode cX0_become 10 = .ok (.iconst 5, 1) := by decide +kernel
theorem dX0_become_11 : decode cX0_become 11 = .ok (.invokestatic 39, 3) := by decide +kernel
theorem dX0_become_14 : decode cX0_become 14 = .ok (.aload_n 1, 1) := by decide +kernel
theorem dX0_become_15 : decode cX0_become 15 = .ok (.getfield 15, 3) := by decide +kernel
theorem dX0_become_18 : decode cX0_become 18 = .ok (.iconst 0, 1) := by decide +kernel
theorem dX0_become_19 : decode cX0_become 19 = .ok (.aload_n 0, 1) := by decide +kernel
theorem dX0_become_20 : decode cX0_become 20 = .ok (.getfield 15, 3) := by decide +kernel
theorem dX0_become_23 : decode cX0_become 23 = .ok (.iconst 0, 1) := by decide +kernel
theorem dX0_become_24 : decode cX0_become 24 = .ok (.iconst 5, 1) := by decide +kernel
theorem dX0_become_25 : decode cX0_become 25 = .ok (.invokestatic 39, 3) := by decide +kernel
theorem dX0_become_28 : decode cX0_become 28 = .ok (.aload_n 1, 1) := by decide +kernel
theorem dX0_become_29 : decode cX0_become 29 = .ok (.getfield 18, 3) := by decide +kernel
theorem dX0_become_32 : decode cX0_become 32 = .ok (.iconst 0, 1) := by decide +kernel
theorem dX0_become_33 : decode cX0_become 33 = .ok (.aload_n 0, 1) := by decide +kernel
theorem dX0_become_34 : decode cX0_become 34 = .ok (.getfield 18, 3) := by decide +kernel
theorem dX0_become_37 : decode cX0_become 37 = .ok (.iconst 0, 1) := by decide +kernel
theorem dX0_become_38 : decode cX0_become 38 = .ok (.iconst 5, 1) := by decide +kernel
theorem dX0_become_39 : decode cX0_become 39 = .ok (.invokestatic 39, 3) := by decide +kernel
theorem dX0_become_42 : decode cX0_become 42 = .ok (.aload_n 0, 1) := by decide +kernel
theorem dX0_become_43 : decode cX0_become 43 = .ok (.aload_n 1, 1) := by decide +kernel
theorem dX0_become_44 : decode cX0_become 44 = .ok (.getfield 25, 3) := by decide +kernel
theorem dX0_become_47 : decode cX0_become 47 = .ok (.putfield 25, 3) := by decide +kernel
theorem dX0_become_50 : decode cX0_become 50 = .ok (.aload_n 0, 1) := by decide +kernel
theorem dX0_become_51 : decode cX0_become 51 = .ok (.aload_n 1, 1) := by decide +kernel
theorem dX0_become_52 : decode cX0_become 52 = .ok (.getfield 29, 3) := by decide +kernel
theorem dX0_become_55 : decode cX0_become 55 = .ok (.putfield 29, 3) := by decide +kernel
theorem dX0_become_58 : decode cX0_become 58 = .ok (.aload_n 0, 1) := by decide +kernel
theorem dX0_become_59 : decode cX0_become 59 = .ok (.aload_n 1, 1) := by decide +kernel
theorem dX0_become_60 : decode cX0_become 60 = .ok (.getfield 33, 3) := by decide +kernel
theorem dX0_become_63 : decode cX0_become 63 = .ok (.putfield 33, 3) := by decide +kernel
theorem dX0_become_66 : decode cX0_become 66 = .ok (.aload_n 0, 1) := by decide +kernel
theorem dX0_become_67 : decode cX0_become 67 = .ok (.aload_n 1, 1) := by decide +kernel
theorem dX0_become_68 : decode cX0_become 68 = .ok (.getfield 36, 3) := by decide +kernel
theorem dX0_become_71 : decode cX0_become 71 = .ok (.putfield 36, 3) := by decide +kernel
theorem dX0_become_74 : decode cX0_become 74 = .ok (.return_, 1) := by decide +kernel
theorem dX0_has_0 : decode cX0_has 0 = .ok (.iload_n 1, 1) := by decide +kernel
theorem dX0_has_1 : decode cX0_has 1 = .ok (.iconst 0, 1) := by decide +kernel
theorem dX0_has_2 : decode cX0_has 2 = .ok (.aload_n 0, 1) := by decide +kernel
theorem dX0_has_3 : decode cX0_has 3 = .ok (.getfield 25, 3) := by decide +kernel
theorem dX0_has_6 : decode cX0_has 6 = .ok (.iconst 1, 1) := by decide +kernel
theorem dX0_has_7 : decode cX0_has 7 = .ok (.isub, 1) := by decide +kernel
theorem dX0_has_8 : decode cX0_has 8 = .ok (.invokestatic 45, 3) := by decide +kernel
theorem dX0_has_11 : decode cX0_has 11 = .ok (.ireturn, 1) := by decide +kernel
theorem dX0_kindOf_0 : decode cX0_kindOf 0 = .ok (.iload_n 1, 1) := by decide +kernel
theorem dX0_kindOf_1 : decode cX0_kindOf 1 = .ok (.ifCond .lt 17, 3) := by decide +kernel
theorem dX0_kindOf_4 : decode cX0_kindOf 4 = .ok (.iload_n 1, 1) := by decide +kernel
theorem dX0_kindOf_5 : decode cX0_kindOf 5 = .ok (.iconst 5, 1) := by decide +kernel
theorem dX0_kindOf_6 : decode cX0_kindOf 6 = .ok (.if_icmp .ge 12, 3) := by decide +kernel
theorem dX0_kindOf_9 : decode cX0_kindOf 9 = .ok (.aload_n 0, 1) := by decide +kernel
theorem dX0_kindOf_10 : decode cX0_kindOf 10 = .ok (.getfield 9, 3) := by decide +kernel
theorem dX0_kindOf_13 : decode cX0_kindOf 13 = .ok (.iload_n 1, 1) := by decide +kernel
theorem dX0_kindOf_14 : decode cX0_kindOf 14 = .ok (.iaload, 1) := by decide +kernel
theorem dX0_kindOf_15 : decode cX0_kindOf 15 = .ok (.goto 4, 3) := by decide +kernel
theorem dX0_kindOf_18 : decode cX0_kindOf 18 = .ok (.iconst 0, 1) := by decide +kernel
theorem dX0_kindOf_19 : decode cX0_kindOf 19 = .ok (.ireturn, 1) := by decide +kernel
theorem dX0_targetOf_0 : decode cX0_targetOf 0 = .ok (.iload_n 1, 1) := by decide +kernel
theorem dX0_targetOf_1 : decode cX0_targetOf 1 = .ok (.ifCond .lt 17, 3) := by decide +kernel
theorem dX0_targetOf_4 : decode cX0_targetOf 4 = .ok (.iload_n 1, 1) := by decide +kernel
theorem dX0_targetOf_5 : decode cX0_targetOf 5 = .ok (.iconst 5, 1) := by decide +kernel
theorem dX0_targetOf_6 : decode cX0_targetOf 6 = .ok (.if_icmp .ge 12, 3) := by decide +kernel
theorem dX0_targetOf_9 : decode cX0_targetOf 9 = .ok (.aload_n 0, 1) := by decide +kernel
theorem dX0_targetOf_10 : decode cX0_targetOf 10 = .ok (.getfield 15, 3) := by decide +kernel
theorem dX0_targetOf_13 : decode cX0_targetOf 13 = .ok (.iload_n 1, 1) := by decide +kernel
theorem dX0_targetOf_14 : decode cX0_targetOf 14 = .ok (.iaload, 1) := by decide +kernel
theorem dX0_targetOf_15 : decode cX0_targetOf 15 = .ok (.goto 4, 3) := by decide +kernel
theorem dX0_targetOf_18 : decode cX0_targetOf 18 = .ok (.iconst (-1), 1) := by decide +kernel
theorem dX0_targetOf_19 : decode cX0_targetOf 19 = .ok (.ireturn, 1) := by decide +kernel
theorem dX0_toldOf_0 : decode cX0_toldOf 0 = .ok (.iload_n 1, 1) := by decide +kernel
theorem dX0_toldOf_1 : decode cX0_toldOf 1 = .ok (.ifCond .lt 17, 3) := by decide +kernel
theorem dX0_toldOf_4 : decode cX0_toldOf 4 = .ok (.iload_n 1, 1) := by decide +kernel
theorem dX0_toldOf_5 : decode cX0_toldOf 5 = .ok (.iconst 5, 1) := by decide +kernel
theorem dX0_toldOf_6 : decode cX0_toldOf 6 = .ok (.if_icmp .ge 12, 3) := by decide +kernel
theorem dX0_toldOf_9 : decode cX0_toldOf 9 = .ok (.aload_n 0, 1) := by decide +kernel
theorem dX0_toldOf_10 : decode cX0_toldOf 10 = .ok (.getfield 18, 3) := by decide +kernel
theorem dX0_toldOf_13 : decode cX0_toldOf 13 = .ok (.iload_n 1, 1) := by decide +kernel
theorem dX0_toldOf_14 : decode cX0_toldOf 14 = .ok (.iaload, 1) := by decide +kernel
theorem dX0_toldOf_15 : decode cX0_toldOf 15 = .ok (.goto 4, 3) := by decide +kernel
theorem dX0_toldOf_18 : decode cX0_toldOf 18 = .ok (.iconst (-1), 1) := by decide +kernel
theorem dX0_toldOf_19 : decode cX0_toldOf 19 = .ok (.ireturn, 1) := by decide +kernel
theorem dX0_add_0 : decode cX0_add 0 = .ok (.aload_n 0, 1) := by decide +kernel
theorem dX0_add_1 : decode cX0_add 1 = .ok (.getfield 25, 3) := by decide +kernel
theorem dX0_add_4 : decode cX0_add 4 = .ok (.istore_n 3, 1) := by decide +kernel
theorem dX0_add_5 : decode cX0_add 5 = .ok (.iload_n 3, 1) := by decide +kernel
theorem dX0_add_6 : decode cX0_add 6 = .ok (.ifCond .lt 45, 3) := by decide +kernel
theorem dX0_add_9 : decode cX0_add 9 = .ok (.iload_n 3, 1) := by decide +kernel
theorem dX0_add_10 : decode cX0_add 10 = .ok (.iconst 5, 1) := by decide +kernel
theorem dX0_add_11 : decode cX0_add 11 = .ok (.if_icmp .ge 40, 3) := by decide +kernel
theorem dX0_add_14 : decode cX0_add 14 = .ok (.aload_n 0, 1) := by decide +kernel
theorem dX0_add_15 : decode cX0_add 15 = .ok (.getfield 9, 3) := by decide +kernel
theorem dX0_add_18 : decode cX0_add 18 = .ok (.iload_n 3, 1) := by decide +kernel
theorem dX0_add_19 : decode cX0_add 19 = .ok (.iload_n 1, 1) := by decide +kernel
theorem dX0_add_20 : decode cX0_add 20 = .ok (.iastore, 1) := by decide +kernel
theorem dX0_add_21 : decode cX0_add 21 = .ok (.aload_n 0, 1) := by decide +kernel
theorem dX0_add_22 : decode cX0_add 22 = .ok (.getfield 15, 3) := by decide +kernel
theorem dX0_add_25 : decode cX0_add 25 = .ok (.iload_n 3, 1) := by decide +kernel
theorem dX0_add_26 : decode cX0_add 26 = .ok (.iconst (-1), 1) := by decide +kernel
theorem dX0_add_27 : decode cX0_add 27 = .ok (.iastore, 1) := by decide +kernel
theorem dX0_add_28 : decode cX0_add 28 = .ok (.aload_n 0, 1) := by decide +kernel
theorem dX0_add_29 : decode cX0_add 29 = .ok (.aload_n 0, 1) := by decide +kernel
theorem dX0_add_30 : decode cX0_add 30 = .ok (.getfield 29, 3) := by decide +kernel
theorem dX0_add_33 : decode cX0_add 33 = .ok (.iload_n 3, 1) := by decide +kernel
theorem dX0_add_34 : decode cX0_add 34 = .ok (.iload_n 2, 1) := by decide +kernel
theorem dX0_add_35 : decode cX0_add 35 = .ok (.invokestatic 51, 3) := by decide +kernel
theorem dX0_add_38 : decode cX0_add 38 = .ok (.putfield 29, 3) := by decide +kernel
theorem dX0_add_41 : decode cX0_add 41 = .ok (.aload_n 0, 1) := by decide +kernel
theorem dX0_add_42 : decode cX0_add 42 = .ok (.dup, 1) := by decide +kernel
theorem dX0_add_43 : decode cX0_add 43 = .ok (.getfield 25, 3) := by decide +kernel
theorem dX0_add_46 : decode cX0_add 46 = .ok (.iconst 1, 1) := by decide +kernel
theorem dX0_add_47 : decode cX0_add 47 = .ok (.iadd, 1) := by decide +kernel
theorem dX0_add_48 : decode cX0_add 48 = .ok (.putfield 25, 3) := by decide +kernel
theorem dX0_add_51 : decode cX0_add 51 = .ok (.iload_n 3, 1) := by decide +kernel
theorem dX0_add_52 : decode cX0_add 52 = .ok (.ireturn, 1) := by decide +kernel
theorem dX0_retarget_0 : decode cX0_retarget 0 = .ok (.aload_n 0, 1) := by decide +kernel
theorem dX0_retarget_1 : decode cX0_retarget 1 = .ok (.iload_n 1, 1) := by decide +kernel
theorem dX0_retarget_2 : decode cX0_retarget 2 = .ok (.invokevirtual 57, 3) := by decide +kernel
theorem dX0_retarget_5 : decode cX0_retarget 5 = .ok (.istore_n 3, 1) := by decide +kernel
theorem dX0_retarget_6 : decode cX0_retarget 6 = .ok (.iload_n 1, 1) := by decide +kernel
theorem dX0_retarget_7 : decode cX0_retarget 7 = .ok (.ifCond .lt 15, 3) := by decide +kernel
theorem dX0_retarget_10 : decode cX0_retarget 10 = .ok (.iload_n 1, 1) := by decide +kernel
theorem dX0_retarget_11 : decode cX0_retarget 11 = .ok (.iconst 5, 1) := by decide +kernel
theorem dX0_retarget_12 : decode cX0_retarget 12 = .ok (.if_icmp .ge 10, 3) := by decide +kernel
theorem dX0_retarget_15 : decode cX0_retarget 15 = .ok (.aload_n 0, 1) := by decide +kernel
theorem dX0_retarget_16 : decode cX0_retarget 16 = .ok (.getfield 15, 3) := by decide +kernel
theorem dX0_retarget_19 : decode cX0_retarget 19 = .ok (.iload_n 1, 1) := by decide +kernel
theorem dX0_retarget_20 : decode cX0_retarget 20 = .ok (.iload_n 2, 1) := by decide +kernel
theorem dX0_retarget_21 : decode cX0_retarget 21 = .ok (.iastore, 1) := by decide +kernel
theorem dX0_retarget_22 : decode cX0_retarget 22 = .ok (.iload_n 3, 1) := by decide +kernel
theorem dX0_retarget_23 : decode cX0_retarget 23 = .ok (.ireturn, 1) := by decide +kernel
theorem dX0_addAshes_0 : decode cX0_addAshes 0 = .ok (.aload_n 0, 1) := by decide +kernel
theorem dX0_addAshes_1 : decode cX0_addAshes 1 = .ok (.getfield 36, 3) := by decide +kernel
theorem dX0_addAshes_4 : decode cX0_addAshes 4 = .ok (.ifCond .lt 31, 3) := by decide +kernel
theorem dX0_addAshes_7 : decode cX0_addAshes 7 = .ok (.aload_n 0, 1) := by decide +kernel
theorem dX0_addAshes_8 : decode cX0_addAshes 8 = .ok (.getfield 36, 3) := by decide +kernel
theorem dX0_addAshes_11 : decode cX0_addAshes 11 = .ok (.iconst 5, 1) := by decide +kernel
theorem dX0_addAshes_12 : decode cX0_addAshes 12 = .ok (.if_icmp .ge 23, 3) := by decide +kernel
theorem dX0_addAshes_15 : decode cX0_addAshes 15 = .ok (.aload_n 0, 1) := by decide +kernel
theorem dX0_addAshes_16 : decode cX0_addAshes 16 = .ok (.getfield 18, 3) := by decide +kernel
theorem dX0_addAshes_19 : decode cX0_addAshes 19 = .ok (.aload_n 0, 1) := by decide +kernel
theorem dX0_addAshes_20 : decode cX0_addAshes 20 = .ok (.getfield 36, 3) := by decide +kernel
theorem dX0_addAshes_23 : decode cX0_addAshes 23 = .ok (.iload_n 1, 1) := by decide +kernel
theorem dX0_addAshes_24 : decode cX0_addAshes 24 = .ok (.iastore, 1) := by decide +kernel
theorem dX0_addAshes_25 : decode cX0_addAshes 25 = .ok (.aload_n 0, 1) := by decide +kernel
theorem dX0_addAshes_26 : decode cX0_addAshes 26 = .ok (.dup, 1) := by decide +kernel
theorem dX0_addAshes_27 : decode cX0_addAshes 27 = .ok (.getfield 36, 3) := by decide +kernel
theorem dX0_addAshes_30 : decode cX0_addAshes 30 = .ok (.iconst 1, 1) := by decide +kernel
theorem dX0_addAshes_31 : decode cX0_addAshes 31 = .ok (.iadd, 1) := by decide +kernel
theorem dX0_addAshes_32 : decode cX0_addAshes 32 = .ok (.putfield 36, 3) := by decide +kernel
theorem dX0_addAshes_35 : decode cX0_addAshes 35 = .ok (.aload_n 0, 1) := by decide +kernel
theorem dX0_addAshes_36 : decode cX0_addAshes 36 = .ok (.getfield 36, 3) := by decide +kernel
theorem dX0_addAshes_39 : decode cX0_addAshes 39 = .ok (.ireturn, 1) := by decide +kernel
theorem dX0_clearAshes_0 : decode cX0_clearAshes 0 = .ok (.aload_n 0, 1) := by decide +kernel
theorem dX0_clearAshes_1 : decode cX0_clearAshes 1 = .ok (.getfield 36, 3) := by decide +kernel
theorem dX0_clearAshes_4 : decode cX0_clearAshes 4 = .ok (.istore_n 1, 1) := by decide +kernel
theorem dX0_clearAshes_5 : decode cX0_clearAshes 5 = .ok (.aload_n 0, 1) := by decide +kernel
theorem dX0_clearAshes_6 : decode cX0_clearAshes 6 = .ok (.iconst 0, 1) := by decide +kernel
theorem dX0_clearAshes_7 : decode cX0_clearAshes 7 = .ok (.putfield 36, 3) := by decide +kernel
theorem dX0_clearAshes_10 : decode cX0_clearAshes 10 = .ok (.iload_n 1, 1) := by decide +kernel
theorem dX0_clearAshes_11 : decode cX0_clearAshes 11 = .ok (.ireturn, 1) := by decide +kernel
theorem dX0_hasRoom_0 : decode cX0_hasRoom 0 = .ok (.lload_n 1, 1) := by decide +kernel
theorem dX0_hasRoom_1 : decode cX0_hasRoom 1 = .ok (.iload_n 3, 1) := by decide +kernel
theorem dX0_hasRoom_2 : decode cX0_hasRoom 2 = .ok (.invokestatic 61, 3) := by decide +kernel
theorem dX0_hasRoom_5 : decode cX0_hasRoom 5 = .ok (.aload_n 0, 1) := by decide +kernel
theorem dX0_hasRoom_6 : decode cX0_hasRoom 6 = .ok (.getfield 21, 3) := by decide +kernel
theorem dX0_hasRoom_9 : decode cX0_hasRoom 9 = .ok (.getfield 65, 3) := by decide +kernel
theorem dX0_hasRoom_12 : decode cX0_hasRoom 12 = .ok (.if_icmp .ge 7, 3) := by decide +kernel
theorem dX0_hasRoom_15 : decode cX0_hasRoom 15 = .ok (.iconst 1, 1) := by decide +kernel
theorem dX0_hasRoom_16 : decode cX0_hasRoom 16 = .ok (.goto 4, 3) := by decide +kernel
theorem dX0_hasRoom_19 : decode cX0_hasRoom 19 = .ok (.iconst 0, 1) := by decide +kernel
theorem dX0_hasRoom_20 : decode cX0_hasRoom 20 = .ok (.ireturn, 1) := by decide +kernel
theorem dX0_mayCopy_0 : decode cX0_mayCopy 0 = .ok (.lload_n 1, 1) := by decide +kernel
theorem dX0_mayCopy_1 : decode cX0_mayCopy 1 = .ok (.iload_n 3, 1) := by decide +kernel
theorem dX0_mayCopy_2 : decode cX0_mayCopy 2 = .ok (.invokestatic 70, 3) := by decide +kernel
theorem dX0_mayCopy_5 : decode cX0_mayCopy 5 = .ok (.istore 5, 2) := by decide +kernel
theorem dX0_mayCopy_7 : decode cX0_mayCopy 7 = .ok (.iload 5, 2) := by decide +kernel
theorem dX0_mayCopy_9 : decode cX0_mayCopy 9 = .ok (.ifCond .eq 43, 3) := by decide +kernel
theorem dX0_mayCopy_12 : decode cX0_mayCopy 12 = .ok (.iload 5, 2) := by decide +kernel
theorem dX0_mayCopy_14 : decode cX0_mayCopy 14 = .ok (.invokestatic 73, 3) := by decide +kernel
theorem dX0_mayCopy_17 : decode cX0_mayCopy 17 = .ok (.aload_n 0, 1) := by decide +kernel
theorem dX0_mayCopy_18 : decode cX0_mayCopy 18 = .ok (.iload_n 3, 1) := by decide +kernel
theorem dX0_mayCopy_19 : decode cX0_mayCopy 19 = .ok (.invokevirtual 78, 3) := by decide +kernel
theorem dX0_mayCopy_22 : decode cX0_mayCopy 22 = .ok (.invokestatic 81, 3) := by decide +kernel
theorem dX0_mayCopy_25 : decode cX0_mayCopy 25 = .ok (.if_icmp .ge 27, 3) := by decide +kernel
theorem dX0_mayCopy_28 : decode cX0_mayCopy 28 = .ok (.lload_n 1, 1) := by decide +kernel
theorem dX0_mayCopy_29 : decode cX0_mayCopy 29 = .ok (.iload_n 3, 1) := by decide +kernel
theorem dX0_mayCopy_30 : decode cX0_mayCopy 30 = .ok (.iload 4, 2) := by decide +kernel
theorem dX0_mayCopy_32 : decode cX0_mayCopy 32 = .ok (.invokestatic 84, 3) := by decide +kernel
theorem dX0_mayCopy_35 : decode cX0_mayCopy 35 = .ok (.ifCond .ne 17, 3) := by decide +kernel
theorem dX0_mayCopy_38 : decode cX0_mayCopy 38 = .ok (.aload_n 0, 1) := by decide +kernel
theorem dX0_mayCopy_39 : decode cX0_mayCopy 39 = .ok (.lload_n 1, 1) := by decide +kernel
theorem dX0_mayCopy_40 : decode cX0_mayCopy 40 = .ok (.iload 4, 2) := by decide +kernel
theorem dX0_mayCopy_42 : decode cX0_mayCopy 42 = .ok (.invokevirtual 88, 3) := by decide +kernel
theorem dX0_mayCopy_45 : decode cX0_mayCopy 45 = .ok (.ifCond .eq 7, 3) := by decide +kernel
theorem dX0_mayCopy_48 : decode cX0_mayCopy 48 = .ok (.iconst 1, 1) := by decide +kernel
theorem dX0_mayCopy_49 : decode cX0_mayCopy 49 = .ok (.goto 4, 3) := by decide +kernel
theorem dX0_mayCopy_52 : decode cX0_mayCopy 52 = .ok (.iconst 0, 1) := by decide +kernel
theorem dX0_mayCopy_53 : decode cX0_mayCopy 53 = .ok (.ireturn, 1) := by decide +kernel
theorem dX0_mayRename_0 : decode cX0_mayRename 0 = .ok (.lload_n 1, 1) := by decide +kernel
theorem dX0_mayRename_1 : decode cX0_mayRename 1 = .ok (.iload_n 3, 1) := by decide +kernel
theorem dX0_mayRename_2 : decode cX0_mayRename 2 = .ok (.iload 4, 2) := by decide +kernel
theorem dX0_mayRename_4 : decode cX0_mayRename 4 = .ok (.invokestatic 84, 3) := by decide +kernel
theorem dX0_mayRename_7 : decode cX0_mayRename 7 = .ok (.ifCond .eq 27, 3) := by decide +kernel
theorem dX0_mayRename_10 : decode cX0_mayRename 10 = .ok (.lload_n 1, 1) := by decide +kernel
theorem dX0_mayRename_11 : decode cX0_mayRename 11 = .ok (.iload_n 3, 1) := by decide +kernel
theorem dX0_mayRename_12 : decode cX0_mayRename 12 = .ok (.iload 5, 2) := by decide +kernel
theorem dX0_mayRename_14 : decode cX0_mayRename 14 = .ok (.invokestatic 84, 3) := by decide +kernel
theorem dX0_mayRename_17 : decode cX0_mayRename 17 = .ok (.ifCond .ne 17, 3) := by decide +kernel
theorem dX0_mayRename_20 : decode cX0_mayRename 20 = .ok (.aload_n 0, 1) := by decide +kernel
theorem dX0_mayRename_21 : decode cX0_mayRename 21 = .ok (.lload_n 1, 1) := by decide +kernel
theorem dX0_mayRename_22 : decode cX0_mayRename 22 = .ok (.iload 5, 2) := by decide +kernel
theorem dX0_mayRename_24 : decode cX0_mayRename 24 = .ok (.invokevirtual 88, 3) := by decide +kernel
theorem dX0_mayRename_27 : decode cX0_mayRename 27 = .ok (.ifCond .eq 7, 3) := by decide +kernel
theorem dX0_mayRename_30 : decode cX0_mayRename 30 = .ok (.iconst 1, 1) := by decide +kernel
theorem dX0_mayRename_31 : decode cX0_mayRename 31 = .ok (.goto 4, 3) := by decide +kernel
theorem dX0_mayRename_34 : decode cX0_mayRename 34 = .ok (.iconst 0, 1) := by decide +kernel
theorem dX0_mayRename_35 : decode cX0_mayRename 35 = .ok (.ireturn, 1) := by decide +kernel
theorem dX0_passYear_0 : decode cX0_passYear 0 = .ok (.aload_n 0, 1) := by decide +kernel
theorem dX0_passYear_1 : decode cX0_passYear 1 = .ok (.aload_n 0, 1) := by decide +kernel
theorem dX0_passYear_2 : decode cX0_passYear 2 = .ok (.getfield 29, 3) := by decide +kernel
theorem dX0_passYear_5 : decode cX0_passYear 5 = .ok (.iload_n 1, 1) := by decide +kernel
theorem dX0_passYear_6 : decode cX0_passYear 6 = .ok (.invokevirtual 92, 3) := by decide +kernel
theorem dX0_passYear_9 : decode cX0_passYear 9 = .ok (.lstore_n 2, 1) := by decide +kernel
theorem dX0_passYear_10 : decode cX0_passYear 10 = .ok (.aload_n 0, 1) := by decide +kernel
theorem dX0_passYear_11 : decode cX0_passYear 11 = .ok (.getfield 29, 3) := by decide +kernel
theorem dX0_passYear_14 : decode cX0_passYear 14 = .ok (.invokestatic 96, 3) := by decide +kernel
theorem dX0_passYear_17 : decode cX0_passYear 17 = .ok (.lload_n 2, 1) := by decide +kernel
theorem dX0_passYear_18 : decode cX0_passYear 18 = .ok (.invokestatic 96, 3) := by decide +kernel
theorem dX0_passYear_21 : decode cX0_passYear 21 = .ok (.isub, 1) := by decide +kernel
theorem dX0_passYear_22 : decode cX0_passYear 22 = .ok (.istore 4, 2) := by decide +kernel
theorem dX0_passYear_24 : decode cX0_passYear 24 = .ok (.aload_n 0, 1) := by decide +kernel
theorem dX0_passYear_25 : decode cX0_passYear 25 = .ok (.aload_n 0, 1) := by decide +kernel
theorem dX0_passYear_26 : decode cX0_passYear 26 = .ok (.lload_n 2, 1) := by decide +kernel
theorem dX0_passYear_27 : decode cX0_passYear 27 = .ok (.invokevirtual 100, 3) := by decide +kernel
theorem dX0_passYear_30 : decode cX0_passYear 30 = .ok (.putfield 29, 3) := by decide +kernel
theorem dX0_passYear_33 : decode cX0_passYear 33 = .ok (.aload_n 0, 1) := by decide +kernel
theorem dX0_passYear_34 : decode cX0_passYear 34 = .ok (.dup, 1) := by decide +kernel
theorem dX0_passYear_35 : decode cX0_passYear 35 = .ok (.getfield 33, 3) := by decide +kernel
theorem dX0_passYear_38 : decode cX0_passYear 38 = .ok (.iconst 1, 1) := by decide +kernel
theorem dX0_passYear_39 : decode cX0_passYear 39 = .ok (.iadd, 1) := by decide +kernel
theorem dX0_passYear_40 : decode cX0_passYear 40 = .ok (.putfield 33, 3) := by decide +kernel
theorem dX0_passYear_43 : decode cX0_passYear 43 = .ok (.iload 4, 2) := by decide +kernel
theorem dX0_passYear_45 : decode cX0_passYear 45 = .ok (.ireturn, 1) := by decide +kernel
theorem dX0_burntDown_0 : decode cX0_burntDown 0 = .ok (.lload_n 1, 1) := by decide +kernel
theorem dX0_burntDown_1 : decode cX0_burntDown 1 = .ok (.lstore 4, 2) := by decide +kernel
theorem dX0_burntDown_3 : decode cX0_burntDown 3 = .ok (.iconst 0, 1) := by decide +kernel
theorem dX0_burntDown_4 : decode cX0_burntDown 4 = .ok (.istore 6, 2) := by decide +kernel
theorem dX0_burntDown_6 : decode cX0_burntDown 6 = .ok (.iload 6, 2) := by decide +kernel
theorem dX0_burntDown_8 : decode cX0_burntDown 8 = .ok (.aload_n 0, 1) := by decide +kernel
theorem dX0_burntDown_9 : decode cX0_burntDown 9 = .ok (.getfield 25, 3) := by decide +kernel
theorem dX0_burntDown_12 : decode cX0_burntDown 12 = .ok (.if_icmp .ge 63, 3) := by decide +kernel
theorem dX0_burntDown_15 : decode cX0_burntDown 15 = .ok (.lload_n 1, 1) := by decide +kernel
theorem dX0_burntDown_16 : decode cX0_burntDown 16 = .ok (.iload 6, 2) := by decide +kernel
theorem dX0_burntDown_18 : decode cX0_burntDown 18 = .ok (.iload_n 3, 1) := by decide +kernel
theorem dX0_burntDown_19 : decode cX0_burntDown 19 = .ok (.invokestatic 84, 3) := by decide +kernel
theorem dX0_burntDown_22 : decode cX0_burntDown 22 = .ok (.ifCond .ne 6, 3) := by decide +kernel
theorem dX0_burntDown_25 : decode cX0_burntDown 25 = .ok (.goto 44, 3) := by decide +kernel
theorem dX0_burntDown_28 : decode cX0_burntDown 28 = .ok (.aload_n 0, 1) := by decide +kernel
theorem dX0_burntDown_29 : decode cX0_burntDown 29 = .ok (.lload_n 1, 1) := by decide +kernel
theorem dX0_burntDown_30 : decode cX0_burntDown 30 = .ok (.iload 6, 2) := by decide +kernel
theorem dX0_burntDown_32 : decode cX0_burntDown 32 = .ok (.invokevirtual 104, 3) := by decide +kernel
theorem dX0_burntDown_35 : decode cX0_burntDown 35 = .ok (.ifCond .eq 15, 3) := by decide +kernel
theorem dX0_burntDown_38 : decode cX0_burntDown 38 = .ok (.lload 4, 2) := by decide +kernel
theorem dX0_burntDown_40 : decode cX0_burntDown 40 = .ok (.iload 6, 2) := by decide +kernel
theorem dX0_burntDown_42 : decode cX0_burntDown 42 = .ok (.invokestatic 107, 3) := by decide +kernel
theorem dX0_burntDown_45 : decode cX0_burntDown 45 = .ok (.lstore 4, 2) := by decide +kernel
theorem dX0_burntDown_47 : decode cX0_burntDown 47 = .ok (.goto 22, 3) := by decide +kernel
theorem dX0_burntDown_50 : decode cX0_burntDown 50 = .ok (.lload 4, 2) := by decide +kernel
theorem dX0_burntDown_52 : decode cX0_burntDown 52 = .ok (.iload 6, 2) := by decide +kernel
theorem dX0_burntDown_54 : decode cX0_burntDown 54 = .ok (.aload_n 0, 1) := by decide +kernel
theorem dX0_burntDown_55 : decode cX0_burntDown 55 = .ok (.iload 6, 2) := by decide +kernel
theorem dX0_burntDown_57 : decode cX0_burntDown 57 = .ok (.invokevirtual 78, 3) := by decide +kernel
theorem dX0_burntDown_60 : decode cX0_burntDown 60 = .ok (.iload_n 3, 1) := by decide +kernel
theorem dX0_burntDown_61 : decode cX0_burntDown 61 = .ok (.invokestatic 110, 3) := by decide +kernel
theorem dX0_burntDown_64 : decode cX0_burntDown 64 = .ok (.invokestatic 114, 3) := by decide +kernel
theorem dX0_burntDown_67 : decode cX0_burntDown 67 = .ok (.lstore 4, 2) := by decide +kernel
theorem dX0_burntDown_69 : decode cX0_burntDown 69 = .ok (.iinc 6 1, 3) := by decide +kernel
theorem dX0_burntDown_72 : decode cX0_burntDown 72 = .ok (.goto (-66), 3) := by decide +kernel
theorem dX0_burntDown_75 : decode cX0_burntDown 75 = .ok (.lload 4, 2) := by decide +kernel
theorem dX0_burntDown_77 : decode cX0_burntDown 77 = .ok (.lreturn, 1) := by decide +kernel
theorem dX0_isKept_0 : decode cX0_isKept 0 = .ok (.lload_n 1, 1) := by decide +kernel
theorem dX0_isKept_1 : decode cX0_isKept 1 = .ok (.iload_n 3, 1) := by decide +kernel
theorem dX0_isKept_2 : decode cX0_isKept 2 = .ok (.invokestatic 70, 3) := by decide +kernel
theorem dX0_isKept_5 : decode cX0_isKept 5 = .ok (.invokestatic 73, 3) := by decide +kernel
theorem dX0_isKept_8 : decode cX0_isKept 8 = .ok (.iconst 1, 1) := by decide +kernel
theorem dX0_isKept_9 : decode cX0_isKept 9 = .ok (.if_icmp .ne 32, 3) := by decide +kernel
theorem dX0_isKept_12 : decode cX0_isKept 12 = .ok (.lload_n 1, 1) := by decide +kernel
theorem dX0_isKept_13 : decode cX0_isKept 13 = .ok (.iload_n 3, 1) := by decide +kernel
theorem dX0_isKept_14 : decode cX0_isKept 14 = .ok (.invokestatic 117, 3) := by decide +kernel
theorem dX0_isKept_17 : decode cX0_isKept 17 = .ok (.aload_n 0, 1) := by decide +kernel
theorem dX0_isKept_18 : decode cX0_isKept 18 = .ok (.iload_n 3, 1) := by decide +kernel
theorem dX0_isKept_19 : decode cX0_isKept 19 = .ok (.invokevirtual 78, 3) := by decide +kernel
theorem dX0_isKept_22 : decode cX0_isKept 22 = .ok (.invokestatic 120, 3) := by decide +kernel
theorem dX0_isKept_25 : decode cX0_isKept 25 = .ok (.if_icmp .ge 16, 3) := by decide +kernel
theorem dX0_isKept_28 : decode cX0_isKept 28 = .ok (.aload_n 0, 1) := by decide +kernel
theorem dX0_isKept_29 : decode cX0_isKept 29 = .ok (.lload_n 1, 1) := by decide +kernel
theorem dX0_isKept_30 : decode cX0_isKept 30 = .ok (.iload_n 3, 1) := by decide +kernel
theorem dX0_isKept_31 : decode cX0_isKept 31 = .ok (.invokevirtual 123, 3) := by decide +kernel
theorem dX0_isKept_34 : decode cX0_isKept 34 = .ok (.ifCond .eq 7, 3) := by decide +kernel
theorem dX0_isKept_37 : decode cX0_isKept 37 = .ok (.iconst 1, 1) := by decide +kernel
theorem dX0_isKept_38 : decode cX0_isKept 38 = .ok (.goto 4, 3) := by decide +kernel
theorem dX0_isKept_41 : decode cX0_isKept 41 = .ok (.iconst 0, 1) := by decide +kernel
theorem dX0_isKept_42 : decode cX0_isKept 42 = .ok (.ireturn, 1) := by decide +kernel
theorem dX0_isPointedTo_0 : decode cX0_isPointedTo 0 = .ok (.iconst 0, 1) := by decide +kernel
theorem dX0_isPointedTo_1 : decode cX0_isPointedTo 1 = .ok (.istore 4, 2) := by decide +kernel
theorem dX0_isPointedTo_3 : decode cX0_isPointedTo 3 = .ok (.iload 4, 2) := by decide +kernel
theorem dX0_isPointedTo_5 : decode cX0_isPointedTo 5 = .ok (.aload_n 0, 1) := by decide +kernel
theorem dX0_isPointedTo_6 : decode cX0_isPointedTo 6 = .ok (.getfield 25, 3) := by decide +kernel
theorem dX0_isPointedTo_9 : decode cX0_isPointedTo 9 = .ok (.if_icmp .ge 30, 3) := by decide +kernel
theorem dX0_isPointedTo_12 : decode cX0_isPointedTo 12 = .ok (.aload_n 0, 1) := by decide +kernel
theorem dX0_isPointedTo_13 : decode cX0_isPointedTo 13 = .ok (.iload 4, 2) := by decide +kernel
theorem dX0_isPointedTo_15 : decode cX0_isPointedTo 15 = .ok (.invokevirtual 57, 3) := by decide +kernel
theorem dX0_isPointedTo_18 : decode cX0_isPointedTo 18 = .ok (.iload_n 3, 1) := by decide +kernel
theorem dX0_isPointedTo_19 : decode cX0_isPointedTo 19 = .ok (.if_icmp .ne 14, 3) := by decide +kernel
theorem dX0_isPointedTo_22 : decode cX0_isPointedTo 22 = .ok (.lload_n 1, 1) := by decide +kernel
theorem dX0_isPointedTo_23 : decode cX0_isPointedTo 23 = .ok (.iload 4, 2) := by decide +kernel
theorem dX0_isPointedTo_25 : decode cX0_isPointedTo 25 = .ok (.invokestatic 70, 3) := by decide +kernel
theorem dX0_isPointedTo_28 : decode cX0_isPointedTo 28 = .ok (.ifCond .eq 5, 3) := by decide +kernel
theorem dX0_isPointedTo_31 : decode cX0_isPointedTo 31 = .ok (.iconst 1, 1) := by decide +kernel
theorem dX0_isPointedTo_32 : decode cX0_isPointedTo 32 = .ok (.ireturn, 1) := by decide +kernel
theorem dX0_isPointedTo_33 : decode cX0_isPointedTo 33 = .ok (.iinc 4 1, 3) := by decide +kernel
theorem dX0_isPointedTo_36 : decode cX0_isPointedTo 36 = .ok (.goto (-33), 3) := by decide +kernel
theorem dX0_isPointedTo_39 : decode cX0_isPointedTo 39 = .ok (.iconst 0, 1) := by decide +kernel
theorem dX0_isPointedTo_40 : decode cX0_isPointedTo 40 = .ok (.ireturn, 1) := by decide +kernel
theorem dX0_rumoursGrown_0 : decode cX0_rumoursGrown 0 = .ok (.lload_n 1, 1) := by decide +kernel
theorem dX0_rumoursGrown_1 : decode cX0_rumoursGrown 1 = .ok (.lstore_n 3, 1) := by decide +kernel
theorem dX0_rumoursGrown_2 : decode cX0_rumoursGrown 2 = .ok (.iconst 0, 1) := by decide +kernel
theorem dX0_rumoursGrown_3 : decode cX0_rumoursGrown 3 = .ok (.istore 5, 2) := by decide +kernel
theorem dX0_rumoursGrown_5 : decode cX0_rumoursGrown 5 = .ok (.iload 5, 2) := by decide +kernel
theorem dX0_rumoursGrown_7 : decode cX0_rumoursGrown 7 = .ok (.aload_n 0, 1) := by decide +kernel
theorem dX0_rumoursGrown_8 : decode cX0_rumoursGrown 8 = .ok (.getfield 25, 3) := by decide +kernel
theorem dX0_rumoursGrown_11 : decode cX0_rumoursGrown 11 = .ok (.if_icmp .ge 36, 3) := by decide +kernel
theorem dX0_rumoursGrown_14 : decode cX0_rumoursGrown 14 = .ok (.aload_n 0, 1) := by decide +kernel
theorem dX0_rumoursGrown_15 : decode cX0_rumoursGrown 15 = .ok (.iload 5, 2) := by decide +kernel
theorem dX0_rumoursGrown_17 : decode cX0_rumoursGrown 17 = .ok (.invokevirtual 78, 3) := by decide +kernel
theorem dX0_rumoursGrown_20 : decode cX0_rumoursGrown 20 = .ok (.iconst 1, 1) := by decide +kernel
theorem dX0_rumoursGrown_21 : decode cX0_rumoursGrown 21 = .ok (.if_icmp .ne 20, 3) := by decide +kernel
theorem dX0_rumoursGrown_24 : decode cX0_rumoursGrown 24 = .ok (.lload_n 3, 1) := by decide +kernel
theorem dX0_rumoursGrown_25 : decode cX0_rumoursGrown 25 = .ok (.iload 5, 2) := by decide +kernel
theorem dX0_rumoursGrown_27 : decode cX0_rumoursGrown 27 = .ok (.invokestatic 126, 3) := by decide +kernel
theorem dX0_rumoursGrown_30 : decode cX0_rumoursGrown 30 = .ok (.ifCond .eq 11, 3) := by decide +kernel
theorem dX0_rumoursGrown_33 : decode cX0_rumoursGrown 33 = .ok (.aload_n 0, 1) := by decide +kernel
theorem dX0_rumoursGrown_34 : decode cX0_rumoursGrown 34 = .ok (.lload_n 3, 1) := by decide +kernel
theorem dX0_rumoursGrown_35 : decode cX0_rumoursGrown 35 = .ok (.iload 5, 2) := by decide +kernel
theorem dX0_rumoursGrown_37 : decode cX0_rumoursGrown 37 = .ok (.invokevirtual 129, 3) := by decide +kernel
theorem dX0_rumoursGrown_40 : decode cX0_rumoursGrown 40 = .ok (.lstore_n 3, 1) := by decide +kernel
theorem dX0_rumoursGrown_41 : decode cX0_rumoursGrown 41 = .ok (.iinc 5 1, 3) := by decide +kernel
theorem dX0_rumoursGrown_44 : decode cX0_rumoursGrown 44 = .ok (.goto (-39), 3) := by decide +kernel
theorem dX0_rumoursGrown_47 : decode cX0_rumoursGrown 47 = .ok (.lload_n 3, 1) := by decide +kernel
theorem dX0_rumoursGrown_48 : decode cX0_rumoursGrown 48 = .ok (.lreturn, 1) := by decide +kernel
theorem dX0_grown_0 : decode cX0_grown 0 = .ok (.iconst 0, 1) := by decide +kernel
theorem dX0_grown_1 : decode cX0_grown 1 = .ok (.istore 4, 2) := by decide +kernel
theorem dX0_grown_3 : decode cX0_grown 3 = .ok (.iload 4, 2) := by decide +kernel
theorem dX0_grown_5 : decode cX0_grown 5 = .ok (.bipush 6, 2) := by decide +kernel
theorem dX0_grown_7 : decode cX0_grown 7 = .ok (.if_icmp .ge 43, 3) := by decide +kernel
theorem dX0_grown_10 : decode cX0_grown 10 = .ok (.lload_n 1, 1) := by decide +kernel
theorem dX0_grown_11 : decode cX0_grown 11 = .ok (.iload_n 3, 1) := by decide +kernel
theorem dX0_grown_12 : decode cX0_grown 12 = .ok (.iload 4, 2) := by decide +kernel
theorem dX0_grown_14 : decode cX0_grown 14 = .ok (.invokestatic 84, 3) := by decide +kernel
theorem dX0_grown_17 : decode cX0_grown 17 = .ok (.ifCond .ne 27, 3) := by decide +kernel
theorem dX0_grown_20 : decode cX0_grown 20 = .ok (.lload_n 1, 1) := by decide +kernel
theorem dX0_grown_21 : decode cX0_grown 21 = .ok (.iload 4, 2) := by decide +kernel
theorem dX0_grown_23 : decode cX0_grown 23 = .ok (.invokestatic 61, 3) := by decide +kernel
theorem dX0_grown_26 : decode cX0_grown 26 = .ok (.aload_n 0, 1) := by decide +kernel
theorem dX0_grown_27 : decode cX0_grown 27 = .ok (.getfield 21, 3) := by decide +kernel
theorem dX0_grown_30 : decode cX0_grown 30 = .ok (.getfield 65, 3) := by decide +kernel
theorem dX0_grown_33 : decode cX0_grown 33 = .ok (.if_icmp .ge 11, 3) := by decide +kernel
theorem dX0_grown_36 : decode cX0_grown 36 = .ok (.lload_n 1, 1) := by decide +kernel
theorem dX0_grown_37 : decode cX0_grown 37 = .ok (.iload_n 3, 1) := by decide +kernel
theorem dX0_grown_38 : decode cX0_grown 38 = .ok (.iload 4, 2) := by decide +kernel
theorem dX0_grown_40 : decode cX0_grown 40 = .ok (.invokestatic 51, 3) := by decide +kernel
theorem dX0_grown_43 : decode cX0_grown 43 = .ok (.lreturn, 1) := by decide +kernel
theorem dX0_grown_44 : decode cX0_grown 44 = .ok (.iinc 4 1, 3) := by decide +kernel
theorem dX0_grown_47 : decode cX0_grown 47 = .ok (.goto (-44), 3) := by decide +kernel
theorem dX0_grown_50 : decode cX0_grown 50 = .ok (.lload_n 1, 1) := by decide +kernel
theorem dX0_grown_51 : decode cX0_grown 51 = .ok (.lreturn, 1) := by decide +kernel
theorem dX0_pointingNowhere_0 : decode cX0_pointingNowhere 0 = .ok (.iconst 0, 1) := by decide +kernel
theorem dX0_pointingNowhere_1 : decode cX0_pointingNowhere 1 = .ok (.istore_n 1, 1) := by decide +kernel
theorem dX0_pointingNowhere_2 : decode cX0_pointingNowhere 2 = .ok (.iconst 0, 1) := by decide +kernel
theorem dX0_pointingNowhere_3 : decode cX0_pointingNowhere 3 = .ok (.istore_n 2, 1) := by decide +kernel
theorem dX0_pointingNowhere_4 : decode cX0_pointingNowhere 4 = .ok (.iload_n 2, 1) := by decide +kernel
theorem dX0_pointingNowhere_5 : decode cX0_pointingNowhere 5 = .ok (.aload_n 0, 1) := by decide +kernel
theorem dX0_pointingNowhere_6 : decode cX0_pointingNowhere 6 = .ok (.getfield 25, 3) := by decide +kernel
theorem dX0_pointingNowhere_9 : decode cX0_pointingNowhere 9 = .ok (.if_icmp .ge 48, 3) := by decide +kernel
theorem dX0_pointingNowhere_12 : decode cX0_pointingNowhere 12 = .ok (.aload_n 0, 1) := by decide +kernel
theorem dX0_pointingNowhere_13 : decode cX0_pointingNowhere 13 = .ok (.iload_n 2, 1) := by decide +kernel
theorem dX0_pointingNowhere_14 : decode cX0_pointingNowhere 14 = .ok (.invokevirtual 57, 3) := by decide +kernel
theorem dX0_pointingNowhere_17 : decode cX0_pointingNowhere 17 = .ok (.istore_n 3, 1) := by decide +kernel
theorem dX0_pointingNowhere_18 : decode cX0_pointingNowhere 18 = .ok (.iload_n 3, 1) := by decide +kernel
theorem dX0_pointingNowhere_19 : decode cX0_pointingNowhere 19 = .ok (.iconst (-1), 1) := by decide +kernel
theorem dX0_pointingNowhere_20 : decode cX0_pointingNowhere 20 = .ok (.if_icmp .eq 31, 3) := by decide +kernel
theorem dX0_pointingNowhere_23 : decode cX0_pointingNowhere 23 = .ok (.aload_n 0, 1) := by decide +kernel
theorem dX0_pointingNowhere_24 : decode cX0_pointingNowhere 24 = .ok (.getfield 29, 3) := by decide +kernel
theorem dX0_pointingNowhere_27 : decode cX0_pointingNowhere 27 = .ok (.iload_n 2, 1) := by decide +kernel
theorem dX0_pointingNowhere_28 : decode cX0_pointingNowhere 28 = .ok (.invokestatic 126, 3) := by decide +kernel
theorem dX0_pointingNowhere_31 : decode cX0_pointingNowhere 31 = .ok (.ifCond .eq 20, 3) := by decide +kernel
theorem dX0_pointingNowhere_34 : decode cX0_pointingNowhere 34 = .ok (.aload_n 0, 1) := by decide +kernel
theorem dX0_pointingNowhere_35 : decode cX0_pointingNowhere 35 = .ok (.getfield 29, 3) := by decide +kernel
theorem dX0_pointingNowhere_38 : decode cX0_pointingNowhere 38 = .ok (.iload_n 3, 1) := by decide +kernel
theorem dX0_pointingNowhere_39 : decode cX0_pointingNowhere 39 = .ok (.invokestatic 126, 3) := by decide +kernel
theorem dX0_pointingNowhere_42 : decode cX0_pointingNowhere 42 = .ok (.ifCond .ne 9, 3) := by decide +kernel
theorem dX0_pointingNowhere_45 : decode cX0_pointingNowhere 45 = .ok (.iload_n 1, 1) := by decide +kernel
theorem dX0_pointingNowhere_46 : decode cX0_pointingNowhere 46 = .ok (.iconst 1, 1) := by decide +kernel
theorem dX0_pointingNowhere_47 : decode cX0_pointingNowhere 47 = .ok (.iload_n 2, 1) := by decide +kernel
theorem dX0_pointingNowhere_48 : decode cX0_pointingNowhere 48 = .ok (.ishl, 1) := by decide +kernel
theorem dX0_pointingNowhere_49 : decode cX0_pointingNowhere 49 = .ok (.ior, 1) := by decide +kernel
theorem dX0_pointingNowhere_50 : decode cX0_pointingNowhere 50 = .ok (.istore_n 1, 1) := by decide +kernel
theorem dX0_pointingNowhere_51 : decode cX0_pointingNowhere 51 = .ok (.iinc 2 1, 3) := by decide +kernel
theorem dX0_pointingNowhere_54 : decode cX0_pointingNowhere 54 = .ok (.goto (-50), 3) := by decide +kernel
theorem dX0_pointingNowhere_57 : decode cX0_pointingNowhere 57 = .ok (.iload_n 1, 1) := by decide +kernel
theorem dX0_pointingNowhere_58 : decode cX0_pointingNowhere 58 = .ok (.ireturn, 1) := by decide +kernel
theorem dX1_init_0 : decode cX1_init 0 = .ok (.aload_n 0, 1) := by decide +kernel
theorem dX1_init_1 : decode cX1_init 1 = .ok (.invokespecial 3, 3) := by decide +kernel
theorem dX1_init_4 : decode cX1_init 4 = .ok (.aload_n 0, 1) := by decide +kernel
theorem dX1_init_5 : decode cX1_init 5 = .ok (.aload_n 1, 1) := by decide +kernel
theorem dX1_init_6 : decode cX1_init 6 = .ok (.putfield 9, 3) := by decide +kernel
theorem dX1_init_9 : decode cX1_init 9 = .ok (.aload_n 0, 1) := by decide +kernel
theorem dX1_init_10 : decode cX1_init 10 = .ok (.aload_n 2, 1) := by decide +kernel
theorem dX1_init_11 : decode cX1_init 11 = .ok (.putfield 15, 3) := by decide +kernel
theorem dX1_init_14 : decode cX1_init 14 = .ok (.return_, 1) := by decide +kernel
theorem dX1_waysToLive_0 : decode cX1_waysToLive 0 = .ok (.lload_n 1, 1) := by decide +kernel
theorem dX1_waysToLive_1 : decode cX1_waysToLive 1 = .ok (.iload_n 3, 1) := by decide +kernel
theorem dX1_waysToLive_2 : decode cX1_waysToLive 2 = .ok (.invokestatic 19, 3) := by decide +kernel
theorem dX1_waysToLive_5 : decode cX1_waysToLive 5 = .ok (.ifCond .ne 5, 3) := by decide +kernel
theorem dX1_waysToLive_8 : decode cX1_waysToLive 8 = .ok (.iconst 0, 1) := by decide +kernel
theorem dX1_waysToLive_9 : decode cX1_waysToLive 9 = .ok (.ireturn, 1) := by decide +kernel
theorem dX1_waysToLive_10 : decode cX1_waysToLive 10 = .ok (.iload 4, 2) := by decide +kernel
theorem dX1_waysToLive_12 : decode cX1_waysToLive 12 = .ok (.ifCond .gt 5, 3) := by decide +kernel
theorem dX1_waysToLive_15 : decode cX1_waysToLive 15 = .ok (.iconst 1, 1) := by decide +kernel
theorem dX1_waysToLive_16 : decode cX1_waysToLive 16 = .ok (.ireturn, 1) := by decide +kernel
theorem dX1_waysToLive_17 : decode cX1_waysToLive 17 = .ok (.iconst 0, 1) := by decide +kernel
theorem dX1_waysToLive_18 : decode cX1_waysToLive 18 = .ok (.istore 5, 2) := by decide +kernel
theorem dX1_waysToLive_20 : decode cX1_waysToLive 20 = .ok (.iconst 0, 1) := by decide +kernel
theorem dX1_waysToLive_21 : decode cX1_waysToLive 21 = .ok (.istore 6, 2) := by decide +kernel
theorem dX1_waysToLive_23 : decode cX1_waysToLive 23 = .ok (.iconst 0, 1) := by decide +kernel
theorem dX1_waysToLive_24 : decode cX1_waysToLive 24 = .ok (.istore 7, 2) := by decide +kernel
theorem dX1_waysToLive_26 : decode cX1_waysToLive 26 = .ok (.iload 7, 2) := by decide +kernel
theorem dX1_waysToLive_28 : decode cX1_waysToLive 28 = .ok (.bipush 6, 2) := by decide +kernel
theorem dX1_waysToLive_30 : decode cX1_waysToLive 30 = .ok (.if_icmp .ge 82, 3) := by decide +kernel
theorem dX1_waysToLive_33 : decode cX1_waysToLive 33 = .ok (.aload_n 0, 1) := by decide +kernel
theorem dX1_waysToLive_34 : decode cX1_waysToLive 34 = .ok (.getfield 9, 3) := by decide +kernel
theorem dX1_waysToLive_37 : decode cX1_waysToLive 37 = .ok (.iload 7, 2) := by decide +kernel
theorem dX1_waysToLive_39 : decode cX1_waysToLive 39 = .ok (.invokevirtual 25, 3) := by decide +kernel
theorem dX1_waysToLive_42 : decode cX1_waysToLive 42 = .ok (.istore 8, 2) := by decide +kernel
theorem dX1_waysToLive_44 : decode cX1_waysToLive 44 = .ok (.lload_n 1, 1) := by decide +kernel
theorem dX1_waysToLive_45 : decode cX1_waysToLive 45 = .ok (.iload 7, 2) := by decide +kernel
theorem dX1_waysToLive_47 : decode cX1_waysToLive 47 = .ok (.invokestatic 31, 3) := by decide +kernel
theorem dX1_waysToLive_50 : decode cX1_waysToLive 50 = .ok (.ifCond .ne 13, 3) := by decide +kernel
theorem dX1_waysToLive_53 : decode cX1_waysToLive 53 = .ok (.iload 6, 2) := by decide +kernel
theorem dX1_waysToLive_55 : decode cX1_waysToLive 55 = .ok (.iload 8, 2) := by decide +kernel
theorem dX1_waysToLive_57 : decode cX1_waysToLive 57 = .ok (.iadd, 1) := by decide +kernel
theorem dX1_waysToLive_58 : decode cX1_waysToLive 58 = .ok (.istore 6, 2) := by decide +kernel
theorem dX1_waysToLive_60 : decode cX1_waysToLive 60 = .ok (.goto 46, 3) := by decide +kernel
theorem dX1_waysToLive_63 : decode cX1_waysToLive 63 = .ok (.iload 8, 2) := by decide +kernel
theorem dX1_waysToLive_65 : decode cX1_waysToLive 65 = .ok (.ifCond .le 41, 3) := by decide +kernel
theorem dX1_waysToLive_68 : decode cX1_waysToLive 68 = .ok (.aload_n 0, 1) := by decide +kernel
theorem dX1_waysToLive_69 : decode cX1_waysToLive 69 = .ok (.getfield 15, 3) := by decide +kernel
theorem dX1_waysToLive_72 : decode cX1_waysToLive 72 = .ok (.lload_n 1, 1) := by decide +kernel
theorem dX1_waysToLive_73 : decode cX1_waysToLive 73 = .ok (.iload 7, 2) := by decide +kernel
theorem dX1_waysToLive_75 : decode cX1_waysToLive 75 = .ok (.invokevirtual 35, 3) := by decide +kernel
theorem dX1_waysToLive_78 : decode cX1_waysToLive 78 = .ok (.lstore 9, 2) := by decide +kernel
theorem dX1_waysToLive_80 : decode cX1_waysToLive 80 = .ok (.iload 5, 2) := by decide +kernel
theorem dX1_waysToLive_82 : decode cX1_waysToLive 82 = .ok (.iload 8, 2) := by decide +kernel
theorem dX1_waysToLive_84 : decode cX1_waysToLive 84 = .ok (.aload_n 0, 1) := by decide +kernel
theorem dX1_waysToLive_85 : decode cX1_waysToLive 85 = .ok (.aload_n 0, 1) := by decide +kernel
theorem dX1_waysToLive_86 : decode cX1_waysToLive 86 = .ok (.getfield 15, 3) := by decide +kernel
theorem dX1_waysToLive_89 : decode cX1_waysToLive 89 = .ok (.lload 9, 2) := by decide +kernel
theorem dX1_waysToLive_91 : decode cX1_waysToLive 91 = .ok (.invokevirtual 41, 3) := by decide +kernel
theorem dX1_waysToLive_94 : decode cX1_waysToLive 94 = .ok (.iload_n 3, 1) := by decide +kernel
theorem dX1_waysToLive_95 : decode cX1_waysToLive 95 = .ok (.iload 4, 2) := by decide +kernel
theorem dX1_waysToLive_97 : decode cX1_waysToLive 97 = .ok (.iconst 1, 1) := by decide +kernel
theorem dX1_waysToLive_98 : decode cX1_waysToLive 98 = .ok (.isub, 1) := by decide +kernel
theorem dX1_waysToLive_99 : decode cX1_waysToLive 99 = .ok (.invokevirtual 45, 3) := by decide +kernel
theorem dX1_waysToLive_102 : decode cX1_waysToLive 102 = .ok (.imul, 1) := by decide +kernel
theorem dX1_waysToLive_103 : decode cX1_waysToLive 103 = .ok (.iadd, 1) := by decide +kernel
theorem dX1_waysToLive_104 : decode cX1_waysToLive 104 = .ok (.istore 5, 2) := by decide +kernel
theorem dX1_waysToLive_106 : decode cX1_waysToLive 106 = .ok (.iinc 7 1, 3) := by decide +kernel
theorem dX1_waysToLive_109 : decode cX1_waysToLive 109 = .ok (.goto (-83), 3) := by decide +kernel
theorem dX1_waysToLive_112 : decode cX1_waysToLive 112 = .ok (.iload 6, 2) := by decide +kernel
theorem dX1_waysToLive_114 : decode cX1_waysToLive 114 = .ok (.ifCond .le 28, 3) := by decide +kernel
theorem dX1_waysToLive_117 : decode cX1_waysToLive 117 = .ok (.iload 5, 2) := by decide +kernel
theorem dX1_waysToLive_119 : decode cX1_waysToLive 119 = .ok (.iload 6, 2) := by decide +kernel
theorem dX1_waysToLive_121 : decode cX1_waysToLive 121 = .ok (.aload_n 0, 1) := by decide +kernel
theorem dX1_waysToLive_122 : decode cX1_waysToLive 122 = .ok (.aload_n 0, 1) := by decide +kernel
theorem dX1_waysToLive_123 : decode cX1_waysToLive 123 = .ok (.getfield 15, 3) := by decide +kernel
theorem dX1_waysToLive_126 : decode cX1_waysToLive 126 = .ok (.lload_n 1, 1) := by decide +kernel
theorem dX1_waysToLive_127 : decode cX1_waysToLive 127 = .ok (.invokevirtual 41, 3) := by decide +kernel
theorem dX1_waysToLive_130 : decode cX1_waysToLive 130 = .ok (.iload_n 3, 1) := by decide +kernel
theorem dX1_waysToLive_131 : decode cX1_waysToLive 131 = .ok (.iload 4, 2) := by decide +kernel
theorem dX1_waysToLive_133 : decode cX1_waysToLive 133 = .ok (.iconst 1, 1) := by decide +kernel
theorem dX1_waysToLive_134 : decode cX1_waysToLive 134 = .ok (.isub, 1) := by decide +kernel
theorem dX1_waysToLive_135 : decode cX1_waysToLive 135 = .ok (.invokevirtual 45, 3) := by decide +kernel
theorem dX1_waysToLive_138 : decode cX1_waysToLive 138 = .ok (.imul, 1) := by decide +kernel
theorem dX1_waysToLive_139 : decode cX1_waysToLive 139 = .ok (.iadd, 1) := by decide +kernel
theorem dX1_waysToLive_140 : decode cX1_waysToLive 140 = .ok (.istore 5, 2) := by decide +kernel
theorem dX1_waysToLive_142 : decode cX1_waysToLive 142 = .ok (.iload 5, 2) := by decide +kernel
theorem dX1_waysToLive_144 : decode cX1_waysToLive 144 = .ok (.ireturn, 1) := by decide +kernel
theorem dX1_bestCopy_0 : decode cX1_bestCopy 0 = .ok (.iconst (-1), 1) := by decide +kernel
theorem dX1_bestCopy_1 : decode cX1_bestCopy 1 = .ok (.istore_n 3, 1) := by decide +kernel
theorem dX1_bestCopy_2 : decode cX1_bestCopy 2 = .ok (.aload_n 0, 1) := by decide +kernel
theorem dX1_bestCopy_3 : decode cX1_bestCopy 3 = .ok (.aload_n 0, 1) := by decide +kernel
theorem dX1_bestCopy_4 : decode cX1_bestCopy 4 = .ok (.getfield 15, 3) := by decide +kernel
theorem dX1_bestCopy_7 : decode cX1_bestCopy 7 = .ok (.getfield 49, 3) := by decide +kernel
theorem dX1_bestCopy_10 : decode cX1_bestCopy 10 = .ok (.iload_n 1, 1) := by decide +kernel
theorem dX1_bestCopy_11 : decode cX1_bestCopy 11 = .ok (.iload_n 2, 1) := by decide +kernel
theorem dX1_bestCopy_12 : decode cX1_bestCopy 12 = .ok (.invokevirtual 45, 3) := by decide +kernel
theorem dX1_bestCopy_15 : decode cX1_bestCopy 15 = .ok (.istore 4, 2) := by decide +kernel
theorem dX1_bestCopy_17 : decode cX1_bestCopy 17 = .ok (.iconst 0, 1) := by decide +kernel
theorem dX1_bestCopy_18 : decode cX1_bestCopy 18 = .ok (.istore 5, 2) := by decide +kernel
theorem dX1_bestCopy_20 : decode cX1_bestCopy 20 = .ok (.iload 5, 2) := by decide +kernel
theorem dX1_bestCopy_22 : decode cX1_bestCopy 22 = .ok (.bipush 6, 2) := by decide +kernel
theorem dX1_bestCopy_24 : decode cX1_bestCopy 24 = .ok (.if_icmp .ge 64, 3) := by decide +kernel
theorem dX1_bestCopy_27 : decode cX1_bestCopy 27 = .ok (.aload_n 0, 1) := by decide +kernel
theorem dX1_bestCopy_28 : decode cX1_bestCopy 28 = .ok (.getfield 15, 3) := by decide +kernel
theorem dX1_bestCopy_31 : decode cX1_bestCopy 31 = .ok (.aload_n 0, 1) := by decide +kernel
theorem dX1_bestCopy_32 : decode cX1_bestCopy 32 = .ok (.getfield 15, 3) := by decide +kernel
theorem dX1_bestCopy_35 : decode cX1_bestCopy 35 = .ok (.getfield 49, 3) := by decide +kernel
theorem dX1_bestCopy_38 : decode cX1_bestCopy 38 = .ok (.iload_n 1, 1) := by decide +kernel
theorem dX1_bestCopy_39 : decode cX1_bestCopy 39 = .ok (.iload 5, 2) := by decide +kernel
theorem dX1_bestCopy_41 : decode cX1_bestCopy 41 = .ok (.invokevirtual 53, 3) := by decide +kernel
theorem dX1_bestCopy_44 : decode cX1_bestCopy 44 = .ok (.ifCond .eq 38, 3) := by decide +kernel
theorem dX1_bestCopy_47 : decode cX1_bestCopy 47 = .ok (.aload_n 0, 1) := by decide +kernel
theorem dX1_bestCopy_48 : decode cX1_bestCopy 48 = .ok (.aload_n 0, 1) := by decide +kernel
theorem dX1_bestCopy_49 : decode cX1_bestCopy 49 = .ok (.getfield 15, 3) := by decide +kernel
theorem dX1_bestCopy_52 : decode cX1_bestCopy 52 = .ok (.getfield 49, 3) := by decide +kernel
theorem dX1_bestCopy_55 : decode cX1_bestCopy 55 = .ok (.iload_n 1, 1) := by decide +kernel
theorem dX1_bestCopy_56 : decode cX1_bestCopy 56 = .ok (.iload 5, 2) := by decide +kernel
theorem dX1_bestCopy_58 : decode cX1_bestCopy 58 = .ok (.invokestatic 57, 3) := by decide +kernel
theorem dX1_bestCopy_61 : decode cX1_bestCopy 61 = .ok (.iload_n 1, 1) := by decide +kernel
theorem dX1_bestCopy_62 : decode cX1_bestCopy 62 = .ok (.iload_n 2, 1) := by decide +kernel
theorem dX1_bestCopy_63 : decode cX1_bestCopy 63 = .ok (.invokevirtual 45, 3) := by decide +kernel
theorem dX1_bestCopy_66 : decode cX1_bestCopy 66 = .ok (.istore 6, 2) := by decide +kernel
theorem dX1_bestCopy_68 : decode cX1_bestCopy 68 = .ok (.iload 6, 2) := by decide +kernel
theorem dX1_bestCopy_70 : decode cX1_bestCopy 70 = .ok (.iload 4, 2) := by decide +kernel
theorem dX1_bestCopy_72 : decode cX1_bestCopy 72 = .ok (.if_icmp .le 10, 3) := by decide +kernel
theorem dX1_bestCopy_75 : decode cX1_bestCopy 75 = .ok (.iload 6, 2) := by decide +kernel
theorem dX1_bestCopy_77 : decode cX1_bestCopy 77 = .ok (.istore 4, 2) := by decide +kernel
theorem dX1_bestCopy_79 : decode cX1_bestCopy 79 = .ok (.iload 5, 2) := by decide +kernel
theorem dX1_bestCopy_81 : decode cX1_bestCopy 81 = .ok (.istore_n 3, 1) := by decide +kernel
theorem dX1_bestCopy_82 : decode cX1_bestCopy 82 = .ok (.iinc 5 1, 3) := by decide +kernel
theorem dX1_bestCopy_85 : decode cX1_bestCopy 85 = .ok (.goto (-65), 3) := by decide +kernel
theorem dX1_bestCopy_88 : decode cX1_bestCopy 88 = .ok (.iload_n 3, 1) := by decide +kernel
theorem dX1_bestCopy_89 : decode cX1_bestCopy 89 = .ok (.ireturn, 1) := by decide +kernel
theorem dX1_fewestSure_0 : decode cX1_fewestSure 0 = .ok (.iconst 1, 1) := by decide +kernel
theorem dX1_fewestSure_1 : decode cX1_fewestSure 1 = .ok (.istore_n 3, 1) := by decide +kernel
theorem dX1_fewestSure_2 : decode cX1_fewestSure 2 = .ok (.iload_n 3, 1) := by decide +kernel
theorem dX1_fewestSure_3 : decode cX1_fewestSure 3 = .ok (.iload_n 1, 1) := by decide +kernel
theorem dX1_fewestSure_4 : decode cX1_fewestSure 4 = .ok (.invokestatic 61, 3) := by decide +kernel
theorem dX1_fewestSure_7 : decode cX1_fewestSure 7 = .ok (.if_icmp .gt 48, 3) := by decide +kernel
theorem dX1_fewestSure_10 : decode cX1_fewestSure 10 = .ok (.iconst 1, 1) := by decide +kernel
theorem dX1_fewestSure_11 : decode cX1_fewestSure 11 = .ok (.istore 4, 2) := by decide +kernel
theorem dX1_fewestSure_13 : decode cX1_fewestSure 13 = .ok (.iload 4, 2) := by decide +kernel
theorem dX1_fewestSure_15 : decode cX1_fewestSure 15 = .ok (.bipush 64, 2) := by decide +kernel
theorem dX1_fewestSure_17 : decode cX1_fewestSure 17 = .ok (.if_icmp .ge 32, 3) := by decide +kernel
theorem dX1_fewestSure_20 : decode cX1_fewestSure 20 = .ok (.iload 4, 2) := by decide +kernel
theorem dX1_fewestSure_22 : decode cX1_fewestSure 22 = .ok (.invokestatic 66, 3) := by decide +kernel
theorem dX1_fewestSure_25 : decode cX1_fewestSure 25 = .ok (.iload_n 3, 1) := by decide +kernel
theorem dX1_fewestSure_26 : decode cX1_fewestSure 26 = .ok (.if_icmp .ne 17, 3) := by decide +kernel
theorem dX1_fewestSure_29 : decode cX1_fewestSure 29 = .ok (.aload_n 0, 1) := by decide +kernel
theorem dX1_fewestSure_30 : decode cX1_fewestSure 30 = .ok (.iload_n 1, 1) := by decide +kernel
theorem dX1_fewestSure_31 : decode cX1_fewestSure 31 = .ok (.iload 4, 2) := by decide +kernel
theorem dX1_fewestSure_33 : decode cX1_fewestSure 33 = .ok (.iload_n 2, 1) := by decide +kernel
theorem dX1_fewestSure_34 : decode cX1_fewestSure 34 = .ok (.invokevirtual 71, 3) := by decide +kernel
theorem dX1_fewestSure_37 : decode cX1_fewestSure 37 = .ok (.ifCond .eq 6, 3) := by decide +kernel
theorem dX1_fewestSure_40 : decode cX1_fewestSure 40 = .ok (.iload 4, 2) := by decide +kernel
theorem dX1_fewestSure_42 : decode cX1_fewestSure 42 = .ok (.ireturn, 1) := by decide +kernel
theorem dX1_fewestSure_43 : decode cX1_fewestSure 43 = .ok (.iinc 4 1, 3) := by decide +kernel
theorem dX1_fewestSure_46 : decode cX1_fewestSure 46 = .ok (.goto (-33), 3) := by decide +kernel
theorem dX1_fewestSure_49 : decode cX1_fewestSure 49 = .ok (.iinc 3 1, 3) := by decide +kernel
theorem dX1_fewestSure_52 : decode cX1_fewestSure 52 = .ok (.goto (-50), 3) := by decide +kernel
theorem dX1_fewestSure_55 : decode cX1_fewestSure 55 = .ok (.iconst (-1), 1) := by decide +kernel
theorem dX1_fewestSure_56 : decode cX1_fewestSure 56 = .ok (.ireturn, 1) := by decide +kernel
theorem dX1_isLeftForSure_0 : decode cX1_isLeftForSure 0 = .ok (.iload_n 2, 1) := by decide +kernel
theorem dX1_isLeftForSure_1 : decode cX1_isLeftForSure 1 = .ok (.ifCond .eq 7, 3) := by decide +kernel
theorem dX1_isLeftForSure_4 : decode cX1_isLeftForSure 4 = .ok (.iload_n 3, 1) := by decide +kernel
theorem dX1_isLeftForSure_5 : decode cX1_isLeftForSure 5 = .ok (.ifCond .gt 13, 3) := by decide +kernel
theorem dX1_isLeftForSure_8 : decode cX1_isLeftForSure 8 = .ok (.iload_n 2, 1) := by decide +kernel
theorem dX1_isLeftForSure_9 : decode cX1_isLeftForSure 9 = .ok (.ifCond .eq 7, 3) := by decide +kernel
theorem dX1_isLeftForSure_12 : decode cX1_isLeftForSure 12 = .ok (.iconst 1, 1) := by decide +kernel
theorem dX1_isLeftForSure_13 : decode cX1_isLeftForSure 13 = .ok (.goto 4, 3) := by decide +kernel
theorem dX1_isLeftForSure_16 : decode cX1_isLeftForSure 16 = .ok (.iconst 0, 1) := by decide +kernel
theorem dX1_isLeftForSure_17 : decode cX1_isLeftForSure 17 = .ok (.ireturn, 1) := by decide +kernel
theorem dX1_isLeftForSure_18 : decode cX1_isLeftForSure 18 = .ok (.iconst 0, 1) := by decide +kernel
theorem dX1_isLeftForSure_19 : decode cX1_isLeftForSure 19 = .ok (.istore 4, 2) := by decide +kernel
theorem dX1_isLeftForSure_21 : decode cX1_isLeftForSure 21 = .ok (.iload 4, 2) := by decide +kernel
theorem dX1_isLeftForSure_23 : decode cX1_isLeftForSure 23 = .ok (.bipush 6, 2) := by decide +kernel
theorem dX1_isLeftForSure_25 : decode cX1_isLeftForSure 25 = .ok (.if_icmp .ge 73, 3) := by decide +kernel
theorem dX1_isLeftForSure_28 : decode cX1_isLeftForSure 28 = .ok (.aload_n 0, 1) := by decide +kernel
theorem dX1_isLeftForSure_29 : decode cX1_isLeftForSure 29 = .ok (.getfield 9, 3) := by decide +kernel
theorem dX1_isLeftForSure_32 : decode cX1_isLeftForSure 32 = .ok (.iload 4, 2) := by decide +kernel
theorem dX1_isLeftForSure_34 : decode cX1_isLeftForSure 34 = .ok (.invokevirtual 75, 3) := by decide +kernel
theorem dX1_isLeftForSure_37 : decode cX1_isLeftForSure 37 = .ok (.ifCond .eq 55, 3) := by decide +kernel
theorem dX1_isLeftForSure_40 : decode cX1_isLeftForSure 40 = .ok (.iload_n 2, 1) := by decide +kernel
theorem dX1_isLeftForSure_41 : decode cX1_isLeftForSure 41 = .ok (.iconst 1, 1) := by decide +kernel
theorem dX1_isLeftForSure_42 : decode cX1_isLeftForSure 42 = .ok (.iload 4, 2) := by decide +kernel
theorem dX1_isLeftForSure_44 : decode cX1_isLeftForSure 44 = .ok (.ishl, 1) := by decide +kernel
theorem dX1_isLeftForSure_45 : decode cX1_isLeftForSure 45 = .ok (.iand, 1) := by decide +kernel
theorem dX1_isLeftForSure_46 : decode cX1_isLeftForSure 46 = .ok (.ifCond .eq 7, 3) := by decide +kernel
theorem dX1_isLeftForSure_49 : decode cX1_isLeftForSure 49 = .ok (.iconst 1, 1) := by decide +kernel
theorem dX1_isLeftForSure_50 : decode cX1_isLeftForSure 50 = .ok (.goto 4, 3) := by decide +kernel
theorem dX1_isLeftForSure_53 : decode cX1_isLeftForSure 53 = .ok (.iconst 0, 1) := by decide +kernel
theorem dX1_isLeftForSure_54 : decode cX1_isLeftForSure 54 = .ok (.istore 5, 2) := by decide +kernel
theorem dX1_isLeftForSure_56 : decode cX1_isLeftForSure 56 = .ok (.iload 5, 2) := by decide +kernel
theorem dX1_isLeftForSure_58 : decode cX1_isLeftForSure 58 = .ok (.ifCond .eq 16, 3) := by decide +kernel
theorem dX1_isLeftForSure_61 : decode cX1_isLeftForSure 61 = .ok (.iload_n 2, 1) := by decide +kernel
theorem dX1_isLeftForSure_62 : decode cX1_isLeftForSure 62 = .ok (.iload_n 1, 1) := by decide +kernel
theorem dX1_isLeftForSure_63 : decode cX1_isLeftForSure 63 = .ok (.iload 4, 2) := by decide +kernel
theorem dX1_isLeftForSure_65 : decode cX1_isLeftForSure 65 = .ok (.invokestatic 79, 3) := by decide +kernel
theorem dX1_isLeftForSure_68 : decode cX1_isLeftForSure 68 = .ok (.iconst (-1), 1) := by decide +kernel
theorem dX1_isLeftForSure_69 : decode cX1_isLeftForSure 69 = .ok (.ixor, 1) := by decide +kernel
theorem dX1_isLeftForSure_70 : decode cX1_isLeftForSure 70 = .ok (.iand, 1) := by decide +kernel
theorem dX1_isLeftForSure_71 : decode cX1_isLeftForSure 71 = .ok (.goto 4, 3) := by decide +kernel
theorem dX1_isLeftForSure_74 : decode cX1_isLeftForSure 74 = .ok (.iload_n 2, 1) := by decide +kernel
theorem dX1_isLeftForSure_75 : decode cX1_isLeftForSure 75 = .ok (.istore 6, 2) := by decide +kernel
theorem dX1_isLeftForSure_77 : decode cX1_isLeftForSure 77 = .ok (.aload_n 0, 1) := by decide +kernel
theorem dX1_isLeftForSure_78 : decode cX1_isLeftForSure 78 = .ok (.iload_n 1, 1) := by decide +kernel
theorem dX1_isLeftForSure_79 : decode cX1_isLeftForSure 79 = .ok (.iload 6, 2) := by decide +kernel
theorem dX1_isLeftForSure_81 : decode cX1_isLeftForSure 81 = .ok (.iload_n 3, 1) := by decide +kernel
theorem dX1_isLeftForSure_82 : decode cX1_isLeftForSure 82 = .ok (.iconst 1, 1) := by decide +kernel
theorem dX1_isLeftForSure_83 : decode cX1_isLeftForSure 83 = .ok (.isub, 1) := by decide +kernel
theorem dX1_isLeftForSure_84 : decode cX1_isLeftForSure 84 = .ok (.invokevirtual 71, 3) := by decide +kernel
theorem dX1_isLeftForSure_87 : decode cX1_isLeftForSure 87 = .ok (.ifCond .ne 5, 3) := by decide +kernel
theorem dX1_isLeftForSure_90 : decode cX1_isLeftForSure 90 = .ok (.iconst 0, 1) := by decide +kernel
theorem dX1_isLeftForSure_91 : decode cX1_isLeftForSure 91 = .ok (.ireturn, 1) := by decide +kernel
theorem dX1_isLeftForSure_92 : decode cX1_isLeftForSure 92 = .ok (.iinc 4 1, 3) := by decide +kernel
theorem dX1_isLeftForSure_95 : decode cX1_isLeftForSure 95 = .ok (.goto (-74), 3) := by decide +kernel
theorem dX1_isLeftForSure_98 : decode cX1_isLeftForSure 98 = .ok (.iconst 1, 1) := by decide +kernel
theorem dX1_isLeftForSure_99 : decode cX1_isLeftForSure 99 = .ok (.ireturn, 1) := by decide +kernel
theorem dX1_fewestRenamings_0 : decode cX1_fewestRenamings 0 = .ok (.iconst 0, 1) := by decide +kernel
theorem dX1_fewestRenamings_1 : decode cX1_fewestRenamings 1 = .ok (.istore_n 2, 1) := by decide +kernel
theorem dX1_fewestRenamings_2 : decode cX1_fewestRenamings 2 = .ok (.iconst 0, 1) := by decide +kernel
theorem dX1_fewestRenamings_3 : decode cX1_fewestRenamings 3 = .ok (.istore_n 3, 1) := by decide +kernel
theorem dX1_fewestRenamings_4 : decode cX1_fewestRenamings 4 = .ok (.iload_n 3, 1) := by decide +kernel
theorem dX1_fewestRenamings_5 : decode cX1_fewestRenamings 5 = .ok (.bipush 6, 2) := by decide +kernel
theorem dX1_fewestRenamings_7 : decode cX1_fewestRenamings 7 = .ok (.if_icmp .ge 29, 3) := by decide +kernel
theorem dX1_fewestRenamings_10 : decode cX1_fewestRenamings 10 = .ok (.iload_n 2, 1) := by decide +kernel
theorem dX1_fewestRenamings_11 : decode cX1_fewestRenamings 11 = .ok (.iconst 0, 1) := by decide +kernel
theorem dX1_fewestRenamings_12 : decode cX1_fewestRenamings 12 = .ok (.aload_n 0, 1) := by decide +kernel
theorem dX1_fewestRenamings_13 : decode cX1_fewestRenamings 13 = .ok (.getfield 15, 3) := by decide +kernel
theorem dX1_fewestRenamings_16 : decode cX1_fewestRenamings 16 = .ok (.getfield 49, 3) := by decide +kernel
theorem dX1_fewestRenamings_19 : decode cX1_fewestRenamings 19 = .ok (.iload_n 3, 1) := by decide +kernel
theorem dX1_fewestRenamings_20 : decode cX1_fewestRenamings 20 = .ok (.invokestatic 31, 3) := by decide +kernel
theorem dX1_fewestRenamings_23 : decode cX1_fewestRenamings 23 = .ok (.iload_n 1, 1) := by decide +kernel
theorem dX1_fewestRenamings_24 : decode cX1_fewestRenamings 24 = .ok (.isub, 1) := by decide +kernel
theorem dX1_fewestRenamings_25 : decode cX1_fewestRenamings 25 = .ok (.invokestatic 83, 3) := by decide +kernel
theorem dX1_fewestRenamings_28 : decode cX1_fewestRenamings 28 = .ok (.iadd, 1) := by decide +kernel
theorem dX1_fewestRenamings_29 : decode cX1_fewestRenamings 29 = .ok (.istore_n 2, 1) := by decide +kernel
theorem dX1_fewestRenamings_30 : decode cX1_fewestRenamings 30 = .ok (.iinc 3 1, 3) := by decide +kernel
theorem dX1_fewestRenamings_33 : decode cX1_fewestRenamings 33 = .ok (.goto (-29), 3) := by decide +kernel
theorem dX1_fewestRenamings_36 : decode cX1_fewestRenamings 36 = .ok (.aload_n 0, 1) := by decide +kernel
theorem dX1_fewestRenamings_37 : decode cX1_fewestRenamings 37 = .ok (.getfield 15, 3) := by decide +kernel
theorem dX1_fewestRenamings_40 : decode cX1_fewestRenamings 40 = .ok (.getfield 49, 3) := by decide +kernel
theorem dX1_fewestRenamings_43 : decode cX1_fewestRenamings 43 = .ok (.invokestatic 88, 3) := by decide +kernel
theorem dX1_fewestRenamings_46 : decode cX1_fewestRenamings 46 = .ok (.bipush 6, 2) := by decide +kernel
theorem dX1_fewestRenamings_48 : decode cX1_fewestRenamings 48 = .ok (.iload_n 1, 1) := by decide +kernel
theorem dX1_fewestRenamings_49 : decode cX1_fewestRenamings 49 = .ok (.imul, 1) := by decide +kernel
theorem dX1_fewestRenamings_50 : decode cX1_fewestRenamings 50 = .ok (.if_icmp .gt 7, 3) := by decide +kernel
theorem dX1_fewestRenamings_53 : decode cX1_fewestRenamings 53 = .ok (.iconst 1, 1) := by decide +kernel
theorem dX1_fewestRenamings_54 : decode cX1_fewestRenamings 54 = .ok (.goto 4, 3) := by decide +kernel
theorem dX1_fewestRenamings_57 : decode cX1_fewestRenamings 57 = .ok (.iconst 0, 1) := by decide +kernel
theorem dX1_fewestRenamings_58 : decode cX1_fewestRenamings 58 = .ok (.istore_n 3, 1) := by decide +kernel
theorem dX1_fewestRenamings_59 : decode cX1_fewestRenamings 59 = .ok (.iload_n 3, 1) := by decide +kernel
theorem dX1_fewestRenamings_60 : decode cX1_fewestRenamings 60 = .ok (.ifCond .eq 12, 3) := by decide +kernel
theorem dX1_fewestRenamings_63 : decode cX1_fewestRenamings 63 = .ok (.iload_n 2, 1) := by decide +kernel
theorem dX1_fewestRenamings_64 : decode cX1_fewestRenamings 64 = .ok (.iconst 3, 1) := by decide +kernel
theorem dX1_fewestRenamings_65 : decode cX1_fewestRenamings 65 = .ok (.if_icmp .gt 7, 3) := by decide +kernel
theorem dX1_fewestRenamings_68 : decode cX1_fewestRenamings 68 = .ok (.iload_n 2, 1) := by decide +kernel
theorem dX1_fewestRenamings_69 : decode cX1_fewestRenamings 69 = .ok (.goto 4, 3) := by decide +kernel
theorem dX1_fewestRenamings_72 : decode cX1_fewestRenamings 72 = .ok (.iconst (-1), 1) := by decide +kernel
theorem dX1_fewestRenamings_73 : decode cX1_fewestRenamings 73 = .ok (.ireturn, 1) := by decide +kernel
theorem dX1_rowsThatFit_0 : decode cX1_rowsThatFit 0 = .ok (.aload_n 0, 1) := by decide +kernel
theorem dX1_rowsThatFit_1 : decode cX1_rowsThatFit 1 = .ok (.aload_n 0, 1) := by decide +kernel
theorem dX1_rowsThatFit_2 : decode cX1_rowsThatFit 2 = .ok (.getfield 15, 3) := by decide +kernel
theorem dX1_rowsThatFit_5 : decode cX1_rowsThatFit 5 = .ok (.getfield 49, 3) := by decide +kernel
theorem dX1_rowsThatFit_8 : decode cX1_rowsThatFit 8 = .ok (.iconst 0, 1) := by decide +kernel
theorem dX1_rowsThatFit_9 : decode cX1_rowsThatFit 9 = .ok (.iconst (-1), 1) := by decide +kernel
theorem dX1_rowsThatFit_10 : decode cX1_rowsThatFit 10 = .ok (.iconst (-1), 1) := by decide +kernel
theorem dX1_rowsThatFit_11 : decode cX1_rowsThatFit 11 = .ok (.invokevirtual 92, 3) := by decide +kernel
theorem dX1_rowsThatFit_14 : decode cX1_rowsThatFit 14 = .ok (.ireturn, 1) := by decide +kernel
theorem dX1_onlyLetterIn_0 : decode cX1_onlyLetterIn 0 = .ok (.iconst (-1), 1) := by decide +kernel
theorem dX1_onlyLetterIn_1 : decode cX1_onlyLetterIn 1 = .ok (.istore_n 2, 1) := by decide +kernel
theorem dX1_onlyLetterIn_2 : decode cX1_onlyLetterIn 2 = .ok (.iconst 0, 1) := by decide +kernel
theorem dX1_onlyLetterIn_3 : decode cX1_onlyLetterIn 3 = .ok (.istore_n 3, 1) := by decide +kernel
theorem dX1_onlyLetterIn_4 : decode cX1_onlyLetterIn 4 = .ok (.iload_n 3, 1) := by decide +kernel
theorem dX1_onlyLetterIn_5 : decode cX1_onlyLetterIn 5 = .ok (.bipush 6, 2) := by decide +kernel
theorem dX1_onlyLetterIn_7 : decode cX1_onlyLetterIn 7 = .ok (.if_icmp .ge 46, 3) := by decide +kernel
theorem dX1_onlyLetterIn_10 : decode cX1_onlyLetterIn 10 = .ok (.aload_n 0, 1) := by decide +kernel
theorem dX1_onlyLetterIn_11 : decode cX1_onlyLetterIn 11 = .ok (.getfield 9, 3) := by decide +kernel
theorem dX1_onlyLetterIn_14 : decode cX1_onlyLetterIn 14 = .ok (.iload_n 3, 1) := by decide +kernel
theorem dX1_onlyLetterIn_15 : decode cX1_onlyLetterIn 15 = .ok (.invokevirtual 75, 3) := by decide +kernel
theorem dX1_onlyLetterIn_18 : decode cX1_onlyLetterIn 18 = .ok (.ifCond .eq 29, 3) := by decide +kernel
theorem dX1_onlyLetterIn_21 : decode cX1_onlyLetterIn 21 = .ok (.aload_n 0, 1) := by decide +kernel
theorem dX1_onlyLetterIn_22 : decode cX1_onlyLetterIn 22 = .ok (.aload_n 0, 1) := by decide +kernel
theorem dX1_onlyLetterIn_23 : decode cX1_onlyLetterIn 23 = .ok (.getfield 15, 3) := by decide +kernel
theorem dX1_onlyLetterIn_26 : decode cX1_onlyLetterIn 26 = .ok (.getfield 49, 3) := by decide +kernel
theorem dX1_onlyLetterIn_29 : decode cX1_onlyLetterIn 29 = .ok (.iconst 0, 1) := by decide +kernel
theorem dX1_onlyLetterIn_30 : decode cX1_onlyLetterIn 30 = .ok (.iload_n 1, 1) := by decide +kernel
theorem dX1_onlyLetterIn_31 : decode cX1_onlyLetterIn 31 = .ok (.iload_n 3, 1) := by decide +kernel
theorem dX1_onlyLetterIn_32 : decode cX1_onlyLetterIn 32 = .ok (.invokevirtual 92, 3) := by decide +kernel
theorem dX1_onlyLetterIn_35 : decode cX1_onlyLetterIn 35 = .ok (.ifCond .le 12, 3) := by decide +kernel
theorem dX1_onlyLetterIn_38 : decode cX1_onlyLetterIn 38 = .ok (.iload_n 2, 1) := by decide +kernel
theorem dX1_onlyLetterIn_39 : decode cX1_onlyLetterIn 39 = .ok (.iconst (-1), 1) := by decide +kernel
theorem dX1_onlyLetterIn_40 : decode cX1_onlyLetterIn 40 = .ok (.if_icmp .eq 5, 3) := by decide +kernel
theorem dX1_onlyLetterIn_43 : decode cX1_onlyLetterIn 43 = .ok (.iconst (-1), 1) := by decide +kernel
theorem dX1_onlyLetterIn_44 : decode cX1_onlyLetterIn 44 = .ok (.ireturn, 1) := by decide +kernel
theorem dX1_onlyLetterIn_45 : decode cX1_onlyLetterIn 45 = .ok (.iload_n 3, 1) := by decide +kernel
theorem dX1_onlyLetterIn_46 : decode cX1_onlyLetterIn 46 = .ok (.istore_n 2, 1) := by decide +kernel
theorem dX1_onlyLetterIn_47 : decode cX1_onlyLetterIn 47 = .ok (.iinc 3 1, 3) := by decide +kernel
theorem dX1_onlyLetterIn_50 : decode cX1_onlyLetterIn 50 = .ok (.goto (-46), 3) := by decide +kernel
theorem dX1_onlyLetterIn_53 : decode cX1_onlyLetterIn 53 = .ok (.iload_n 2, 1) := by decide +kernel
theorem dX1_onlyLetterIn_54 : decode cX1_onlyLetterIn 54 = .ok (.ireturn, 1) := by decide +kernel
theorem dX1_rowsFrom_0 : decode cX1_rowsFrom 0 = .ok (.iload_n 3, 1) := by decide +kernel
theorem dX1_rowsFrom_1 : decode cX1_rowsFrom 1 = .ok (.ifCond .le 16, 3) := by decide +kernel
theorem dX1_rowsFrom_4 : decode cX1_rowsFrom 4 = .ok (.aload_n 0, 1) := by decide +kernel
theorem dX1_rowsFrom_5 : decode cX1_rowsFrom 5 = .ok (.lload_n 1, 1) := by decide +kernel
theorem dX1_rowsFrom_6 : decode cX1_rowsFrom 6 = .ok (.iload_n 3, 1) := by decide +kernel
theorem dX1_rowsFrom_7 : decode cX1_rowsFrom 7 = .ok (.iconst 1, 1) := by decide +kernel
theorem dX1_rowsFrom_8 : decode cX1_rowsFrom 8 = .ok (.isub, 1) := by decide +kernel
theorem dX1_rowsFrom_9 : decode cX1_rowsFrom 9 = .ok (.invokevirtual 96, 3) := by decide +kernel
theorem dX1_rowsFrom_12 : decode cX1_rowsFrom 12 = .ok (.ifCond .ne 5, 3) := by decide +kernel
theorem dX1_rowsFrom_15 : decode cX1_rowsFrom 15 = .ok (.iconst 0, 1) := by decide +kernel
theorem dX1_rowsFrom_16 : decode cX1_rowsFrom 16 = .ok (.ireturn, 1) := by decide +kernel
theorem dX1_rowsFrom_17 : decode cX1_rowsFrom 17 = .ok (.iload_n 3, 1) := by decide +kernel
theorem dX1_rowsFrom_18 : decode cX1_rowsFrom 18 = .ok (.aload_n 0, 1) := by decide +kernel
theorem dX1_rowsFrom_19 : decode cX1_rowsFrom 19 = .ok (.getfield 15, 3) := by decide +kernel
theorem dX1_rowsFrom_22 : decode cX1_rowsFrom 22 = .ok (.getfield 99, 3) := by decide +kernel
theorem dX1_rowsFrom_25 : decode cX1_rowsFrom 25 = .ok (.if_icmp .lt 5, 3) := by decide +kernel
theorem dX1_rowsFrom_28 : decode cX1_rowsFrom 28 = .ok (.iconst 1, 1) := by decide +kernel
theorem dX1_rowsFrom_29 : decode cX1_rowsFrom 29 = .ok (.ireturn, 1) := by decide +kernel
theorem dX1_rowsFrom_30 : decode cX1_rowsFrom 30 = .ok (.iload_n 3, 1) := by decide +kernel
theorem dX1_rowsFrom_31 : decode cX1_rowsFrom 31 = .ok (.iload 4, 2) := by decide +kernel
theorem dX1_rowsFrom_33 : decode cX1_rowsFrom 33 = .ok (.if_icmp .le 31, 3) := by decide +kernel
theorem dX1_rowsFrom_36 : decode cX1_rowsFrom 36 = .ok (.aload_n 0, 1) := by decide +kernel
theorem dX1_rowsFrom_37 : decode cX1_rowsFrom 37 = .ok (.iload_n 3, 1) := by decide +kernel
theorem dX1_rowsFrom_38 : decode cX1_rowsFrom 38 = .ok (.invokevirtual 103, 3) := by decide +kernel
theorem dX1_rowsFrom_41 : decode cX1_rowsFrom 41 = .ok (.ifCond .eq 23, 3) := by decide +kernel
theorem dX1_rowsFrom_44 : decode cX1_rowsFrom 44 = .ok (.aload_n 0, 1) := by decide +kernel
theorem dX1_rowsFrom_45 : decode cX1_rowsFrom 45 = .ok (.getfield 9, 3) := by decide +kernel
theorem dX1_rowsFrom_48 : decode cX1_rowsFrom 48 = .ok (.invokevirtual 106, 3) := by decide +kernel
theorem dX1_rowsFrom_51 : decode cX1_rowsFrom 51 = .ok (.aload_n 0, 1) := by decide +kernel
theorem dX1_rowsFrom_52 : decode cX1_rowsFrom 52 = .ok (.getfield 15, 3) := by decide +kernel
theorem dX1_rowsFrom_55 : decode cX1_rowsFrom 55 = .ok (.getfield 99, 3) := by decide +kernel
theorem dX1_rowsFrom_58 : decode cX1_rowsFrom 58 = .ok (.iload_n 3, 1) := by decide +kernel
theorem dX1_rowsFrom_59 : decode cX1_rowsFrom 59 = .ok (.isub, 1) := by decide +kernel
theorem dX1_rowsFrom_60 : decode cX1_rowsFrom 60 = .ok (.invokestatic 110, 3) := by decide +kernel
theorem dX1_rowsFrom_63 : decode cX1_rowsFrom 63 = .ok (.ireturn, 1) := by decide +kernel
theorem dX1_rowsFrom_64 : decode cX1_rowsFrom 64 = .ok (.iload_n 3, 1) := by decide +kernel
theorem dX1_rowsFrom_65 : decode cX1_rowsFrom 65 = .ok (.iload 4, 2) := by decide +kernel
theorem dX1_rowsFrom_67 : decode cX1_rowsFrom 67 = .ok (.if_icmp .ne 36, 3) := by decide +kernel
theorem dX1_rowsFrom_70 : decode cX1_rowsFrom 70 = .ok (.aload_n 0, 1) := by decide +kernel
theorem dX1_rowsFrom_71 : decode cX1_rowsFrom 71 = .ok (.getfield 15, 3) := by decide +kernel
theorem dX1_rowsFrom_74 : decode cX1_rowsFrom 74 = .ok (.lload_n 1, 1) := by decide +kernel
theorem dX1_rowsFrom_75 : decode cX1_rowsFrom 75 = .ok (.iload 5, 2) := by decide +kernel
theorem dX1_rowsFrom_77 : decode cX1_rowsFrom 77 = .ok (.invokevirtual 35, 3) := by decide +kernel
theorem dX1_rowsFrom_80 : decode cX1_rowsFrom 80 = .ok (.lstore 6, 2) := by decide +kernel
theorem dX1_rowsFrom_82 : decode cX1_rowsFrom 82 = .ok (.aload_n 0, 1) := by decide +kernel
theorem dX1_rowsFrom_83 : decode cX1_rowsFrom 83 = .ok (.aload_n 0, 1) := by decide +kernel
theorem dX1_rowsFrom_84 : decode cX1_rowsFrom 84 = .ok (.getfield 15, 3) := by decide +kernel
theorem dX1_rowsFrom_87 : decode cX1_rowsFrom 87 = .ok (.lload 6, 2) := by decide +kernel
theorem dX1_rowsFrom_89 : decode cX1_rowsFrom 89 = .ok (.invokevirtual 41, 3) := by decide +kernel
theorem dX1_rowsFrom_92 : decode cX1_rowsFrom 92 = .ok (.iload_n 3, 1) := by decide +kernel
theorem dX1_rowsFrom_93 : decode cX1_rowsFrom 93 = .ok (.iconst 1, 1) := by decide +kernel
theorem dX1_rowsFrom_94 : decode cX1_rowsFrom 94 = .ok (.iadd, 1) := by decide +kernel
theorem dX1_rowsFrom_95 : decode cX1_rowsFrom 95 = .ok (.iload 4, 2) := by decide +kernel
theorem dX1_rowsFrom_97 : decode cX1_rowsFrom 97 = .ok (.iload 5, 2) := by decide +kernel
theorem dX1_rowsFrom_99 : decode cX1_rowsFrom 99 = .ok (.invokevirtual 92, 3) := by decide +kernel
theorem dX1_rowsFrom_102 : decode cX1_rowsFrom 102 = .ok (.ireturn, 1) := by decide +kernel
theorem dX1_rowsFrom_103 : decode cX1_rowsFrom 103 = .ok (.iconst 0, 1) := by decide +kernel
theorem dX1_rowsFrom_104 : decode cX1_rowsFrom 104 = .ok (.istore 6, 2) := by decide +kernel
theorem dX1_rowsFrom_106 : decode cX1_rowsFrom 106 = .ok (.iconst 0, 1) := by decide +kernel
theorem dX1_rowsFrom_107 : decode cX1_rowsFrom 107 = .ok (.istore 7, 2) := by decide +kernel
theorem dX1_rowsFrom_109 : decode cX1_rowsFrom 109 = .ok (.iconst 0, 1) := by decide +kernel
theorem dX1_rowsFrom_110 : decode cX1_rowsFrom 110 = .ok (.istore 8, 2) := by decide +kernel
theorem dX1_rowsFrom_112 : decode cX1_rowsFrom 112 = .ok (.iload 8, 2) := by decide +kernel
theorem dX1_rowsFrom_114 : decode cX1_rowsFrom 114 = .ok (.bipush 6, 2) := by decide +kernel
theorem dX1_rowsFrom_116 : decode cX1_rowsFrom 116 = .ok (.if_icmp .ge 76, 3) := by decide +kernel
theorem dX1_rowsFrom_119 : decode cX1_rowsFrom 119 = .ok (.aload_n 0, 1) := by decide +kernel
theorem dX1_rowsFrom_120 : decode cX1_rowsFrom 120 = .ok (.getfield 9, 3) := by decide +kernel
theorem dX1_rowsFrom_123 : decode cX1_rowsFrom 123 = .ok (.iload 8, 2) := by decide +kernel
theorem dX1_rowsFrom_125 : decode cX1_rowsFrom 125 = .ok (.invokevirtual 75, 3) := by decide +kernel
theorem dX1_rowsFrom_128 : decode cX1_rowsFrom 128 = .ok (.ifCond .ne 6, 3) := by decide +kernel
theorem dX1_rowsFrom_131 : decode cX1_rowsFrom 131 = .ok (.goto 55, 3) := by decide +kernel
theorem dX1_rowsFrom_134 : decode cX1_rowsFrom 134 = .ok (.lload_n 1, 1) := by decide +kernel
theorem dX1_rowsFrom_135 : decode cX1_rowsFrom 135 = .ok (.iload 8, 2) := by decide +kernel
theorem dX1_rowsFrom_137 : decode cX1_rowsFrom 137 = .ok (.invokestatic 31, 3) := by decide +kernel
theorem dX1_rowsFrom_140 : decode cX1_rowsFrom 140 = .ok (.ifCond .ne 9, 3) := by decide +kernel
theorem dX1_rowsFrom_143 : decode cX1_rowsFrom 143 = .ok (.iinc 7 1, 3) := by decide +kernel
theorem dX1_rowsFrom_146 : decode cX1_rowsFrom 146 = .ok (.goto 40, 3) := by decide +kernel
theorem dX1_rowsFrom_149 : decode cX1_rowsFrom 149 = .ok (.aload_n 0, 1) := by decide +kernel
theorem dX1_rowsFrom_150 : decode cX1_rowsFrom 150 = .ok (.getfield 15, 3) := by decide +kernel
theorem dX1_rowsFrom_153 : decode cX1_rowsFrom 153 = .ok (.lload_n 1, 1) := by decide +kernel
theorem dX1_rowsFrom_154 : decode cX1_rowsFrom 154 = .ok (.iload 8, 2) := by decide +kernel
theorem dX1_rowsFrom_156 : decode cX1_rowsFrom 156 = .ok (.invokevirtual 35, 3) := by decide +kernel
theorem dX1_rowsFrom_159 : decode cX1_rowsFrom 159 = .ok (.lstore 9, 2) := by decide +kernel
theorem dX1_rowsFrom_161 : decode cX1_rowsFrom 161 = .ok (.iload 6, 2) := by decide +kernel
theorem dX1_rowsFrom_163 : decode cX1_rowsFrom 163 = .ok (.aload_n 0, 1) := by decide +kernel
theorem dX1_rowsFrom_164 : decode cX1_rowsFrom 164 = .ok (.aload_n 0, 1) := by decide +kernel
theorem dX1_rowsFrom_165 : decode cX1_rowsFrom 165 = .ok (.getfield 15, 3) := by decide +kernel
theorem dX1_rowsFrom_168 : decode cX1_rowsFrom 168 = .ok (.lload 9, 2) := by decide +kernel
theorem dX1_rowsFrom_170 : decode cX1_rowsFrom 170 = .ok (.invokevirtual 41, 3) := by decide +kernel
theorem dX1_rowsFrom_173 : decode cX1_rowsFrom 173 = .ok (.iload_n 3, 1) := by decide +kernel
theorem dX1_rowsFrom_174 : decode cX1_rowsFrom 174 = .ok (.iconst 1, 1) := by decide +kernel
theorem dX1_rowsFrom_175 : decode cX1_rowsFrom 175 = .ok (.iadd, 1) := by decide +kernel
theorem dX1_rowsFrom_176 : decode cX1_rowsFrom 176 = .ok (.iload 4, 2) := by decide +kernel
theorem dX1_rowsFrom_178 : decode cX1_rowsFrom 178 = .ok (.iload 5, 2) := by decide +kernel
theorem dX1_rowsFrom_180 : decode cX1_rowsFrom 180 = .ok (.invokevirtual 92, 3) := by decide +kernel
theorem dX1_rowsFrom_183 : decode cX1_rowsFrom 183 = .ok (.iadd, 1) := by decide +kernel
theorem dX1_rowsFrom_184 : decode cX1_rowsFrom 184 = .ok (.istore 6, 2) := by decide +kernel
theorem dX1_rowsFrom_186 : decode cX1_rowsFrom 186 = .ok (.iinc 8 1, 3) := by decide +kernel
theorem dX1_rowsFrom_189 : decode cX1_rowsFrom 189 = .ok (.goto (-77), 3) := by decide +kernel
theorem dX1_rowsFrom_192 : decode cX1_rowsFrom 192 = .ok (.iload 7, 2) := by decide +kernel
theorem dX1_rowsFrom_194 : decode cX1_rowsFrom 194 = .ok (.ifCond .le 30, 3) := by decide +kernel
theorem dX1_rowsFrom_197 : decode cX1_rowsFrom 197 = .ok (.iload 6, 2) := by decide +kernel
theorem dX1_rowsFrom_199 : decode cX1_rowsFrom 199 = .ok (.iload 7, 2) := by decide +kernel
theorem dX1_rowsFrom_201 : decode cX1_rowsFrom 201 = .ok (.aload_n 0, 1) := by decide +kernel
theorem dX1_rowsFrom_202 : decode cX1_rowsFrom 202 = .ok (.aload_n 0, 1) := by decide +kernel
theorem dX1_rowsFrom_203 : decode cX1_rowsFrom 203 = .ok (.getfield 15, 3) := by decide +kernel
theorem dX1_rowsFrom_206 : decode cX1_rowsFrom 206 = .ok (.lload_n 1, 1) := by decide +kernel
theorem dX1_rowsFrom_207 : decode cX1_rowsFrom 207 = .ok (.invokevirtual 41, 3) := by decide +kernel
theorem dX1_rowsFrom_210 : decode cX1_rowsFrom 210 = .ok (.iload_n 3, 1) := by decide +kernel
theorem dX1_rowsFrom_211 : decode cX1_rowsFrom 211 = .ok (.iconst 1, 1) := by decide +kernel
theorem dX1_rowsFrom_212 : decode cX1_rowsFrom 212 = .ok (.iadd, 1) := by decide +kernel
theorem dX1_rowsFrom_213 : decode cX1_rowsFrom 213 = .ok (.iload 4, 2) := by decide +kernel
theorem dX1_rowsFrom_215 : decode cX1_rowsFrom 215 = .ok (.iload 5, 2) := by decide +kernel
theorem dX1_rowsFrom_217 : decode cX1_rowsFrom 217 = .ok (.invokevirtual 92, 3) := by decide +kernel
theorem dX1_rowsFrom_220 : decode cX1_rowsFrom 220 = .ok (.imul, 1) := by decide +kernel
theorem dX1_rowsFrom_221 : decode cX1_rowsFrom 221 = .ok (.iadd, 1) := by decide +kernel
theorem dX1_rowsFrom_222 : decode cX1_rowsFrom 222 = .ok (.istore 6, 2) := by decide +kernel
theorem dX1_rowsFrom_224 : decode cX1_rowsFrom 224 = .ok (.iload 6, 2) := by decide +kernel
theorem dX1_rowsFrom_226 : decode cX1_rowsFrom 226 = .ok (.ireturn, 1) := by decide +kernel
theorem dX1_isAsTold_0 : decode cX1_isAsTold 0 = .ok (.aload_n 0, 1) := by decide +kernel
theorem dX1_isAsTold_1 : decode cX1_isAsTold 1 = .ok (.getfield 15, 3) := by decide +kernel
theorem dX1_isAsTold_4 : decode cX1_isAsTold 4 = .ok (.iload_n 3, 1) := by decide +kernel
theorem dX1_isAsTold_5 : decode cX1_isAsTold 5 = .ok (.invokevirtual 113, 3) := by decide +kernel
theorem dX1_isAsTold_8 : decode cX1_isAsTold 8 = .ok (.istore 4, 2) := by decide +kernel
theorem dX1_isAsTold_10 : decode cX1_isAsTold 10 = .ok (.iload 4, 2) := by decide +kernel
theorem dX1_isAsTold_12 : decode cX1_isAsTold 12 = .ok (.iconst (-1), 1) := by decide +kernel
theorem dX1_isAsTold_13 : decode cX1_isAsTold 13 = .ok (.if_icmp .eq 12, 3) := by decide +kernel
theorem dX1_isAsTold_16 : decode cX1_isAsTold 16 = .ok (.iload 4, 2) := by decide +kernel
theorem dX1_isAsTold_18 : decode cX1_isAsTold 18 = .ok (.lload_n 1, 1) := by decide +kernel
theorem dX1_isAsTold_19 : decode cX1_isAsTold 19 = .ok (.invokestatic 116, 3) := by decide +kernel
theorem dX1_isAsTold_22 : decode cX1_isAsTold 22 = .ok (.if_icmp .ne 7, 3) := by decide +kernel
theorem dX1_isAsTold_25 : decode cX1_isAsTold 25 = .ok (.iconst 1, 1) := by decide +kernel
theorem dX1_isAsTold_26 : decode cX1_isAsTold 26 = .ok (.goto 4, 3) := by decide +kernel
theorem dX1_isAsTold_29 : decode cX1_isAsTold 29 = .ok (.iconst 0, 1) := by decide +kernel
theorem dX1_isAsTold_30 : decode cX1_isAsTold 30 = .ok (.ireturn, 1) := by decide +kernel
theorem dX1_nothingToldFrom_0 : decode cX1_nothingToldFrom 0 = .ok (.iload_n 1, 1) := by decide +kernel
theorem dX1_nothingToldFrom_1 : decode cX1_nothingToldFrom 1 = .ok (.istore_n 2, 1) := by decide +kernel
theorem dX1_nothingToldFrom_2 : decode cX1_nothingToldFrom 2 = .ok (.iload_n 2, 1) := by decide +kernel
theorem dX1_nothingToldFrom_3 : decode cX1_nothingToldFrom 3 = .ok (.aload_n 0, 1) := by decide +kernel
theorem dX1_nothingToldFrom_4 : decode cX1_nothingToldFrom 4 = .ok (.getfield 15, 3) := by decide +kernel
theorem dX1_nothingToldFrom_7 : decode cX1_nothingToldFrom 7 = .ok (.getfield 99, 3) := by decide +kernel
theorem dX1_nothingToldFrom_10 : decode cX1_nothingToldFrom 10 = .ok (.if_icmp .ge 23, 3) := by decide +kernel
theorem dX1_nothingToldFrom_13 : decode cX1_nothingToldFrom 13 = .ok (.aload_n 0, 1) := by decide +kernel
theorem dX1_nothingToldFrom_14 : decode cX1_nothingToldFrom 14 = .ok (.getfield 15, 3) := by decide +kernel
theorem dX1_nothingToldFrom_17 : decode cX1_nothingToldFrom 17 = .ok (.iload_n 2, 1) := by decide +kernel
theorem dX1_nothingToldFrom_18 : decode cX1_nothingToldFrom 18 = .ok (.invokevirtual 113, 3) := by decide +kernel
theorem dX1_nothingToldFrom_21 : decode cX1_nothingToldFrom 21 = .ok (.iconst (-1), 1) := by decide +kernel
theorem dX1_nothingToldFrom_22 : decode cX1_nothingToldFrom 22 = .ok (.if_icmp .eq 5, 3) := by decide +kernel
theorem dX1_nothingToldFrom_25 : decode cX1_nothingToldFrom 25 = .ok (.iconst 0, 1) := by decide +kernel
theorem dX1_nothingToldFrom_26 : decode cX1_nothingToldFrom 26 = .ok (.ireturn, 1) := by decide +kernel
theorem dX1_nothingToldFrom_27 : decode cX1_nothingToldFrom 27 = .ok (.iinc 2 1, 3) := by decide +kernel
theorem dX1_nothingToldFrom_30 : decode cX1_nothingToldFrom 30 = .ok (.goto (-28), 3) := by decide +kernel
theorem dX1_nothingToldFrom_33 : decode cX1_nothingToldFrom 33 = .ok (.iconst 1, 1) := by decide +kernel
theorem dX1_nothingToldFrom_34 : decode cX1_nothingToldFrom 34 = .ok (.ireturn, 1) := by decide +kernel
theorem dX2_isKind_0 : decode cX2_isKind 0 = .ok (.iload_n 0, 1) := by decide +kernel
theorem dX2_isKind_1 : decode cX2_isKind 1 = .ok (.iconst 0, 1) := by decide +kernel
theorem dX2_isKind_2 : decode cX2_isKind 2 = .ok (.iconst 4, 1) := by decide +kernel
theorem dX2_isKind_3 : decode cX2_isKind 3 = .ok (.invokestatic 11, 3) := by decide +kernel
theorem dX2_isKind_6 : decode cX2_isKind 6 = .ok (.ireturn, 1) := by decide +kernel
theorem dX2_isSuch_0 : decode cX2_isSuch 0 = .ok (.iload_n 1, 1) := by decide +kernel
theorem dX2_isSuch_1 : decode cX2_isSuch 1 = .ok (.ifCond .eq 18, 3) := by decide +kernel
theorem dX2_isSuch_4 : decode cX2_isSuch 4 = .ok (.iload_n 0, 1) := by decide +kernel
theorem dX2_isSuch_5 : decode cX2_isSuch 5 = .ok (.iload_n 1, 1) := by decide +kernel
theorem dX2_isSuch_6 : decode cX2_isSuch 6 = .ok (.if_icmp .eq 13, 3) := by decide +kernel
theorem dX2_isSuch_9 : decode cX2_isSuch 9 = .ok (.iload_n 0, 1) := by decide +kernel
theorem dX2_isSuch_10 : decode cX2_isSuch 10 = .ok (.iconst 4, 1) := by decide +kernel
theorem dX2_isSuch_11 : decode cX2_isSuch 11 = .ok (.if_icmp .ne 12, 3) := by decide +kernel
theorem dX2_isSuch_14 : decode cX2_isSuch 14 = .ok (.iload_n 1, 1) := by decide +kernel
theorem dX2_isSuch_15 : decode cX2_isSuch 15 = .ok (.iconst 3, 1) := by decide +kernel
theorem dX2_isSuch_16 : decode cX2_isSuch 16 = .ok (.if_icmp .ne 7, 3) := by decide +kernel
theorem dX2_isSuch_19 : decode cX2_isSuch 19 = .ok (.iconst 1, 1) := by decide +kernel
theorem dX2_isSuch_20 : decode cX2_isSuch 20 = .ok (.goto 4, 3) := by decide +kernel
theorem dX2_isSuch_23 : decode cX2_isSuch 23 = .ok (.iconst 0, 1) := by decide +kernel
theorem dX2_isSuch_24 : decode cX2_isSuch 24 = .ok (.ireturn, 1) := by decide +kernel
theorem dX2_namesOf_0 : decode cX2_namesOf 0 = .ok (.iload_n 0, 1) := by decide +kernel
theorem dX2_namesOf_1 : decode cX2_namesOf 1 = .ok (.iconst 1, 1) := by decide +kernel
theorem dX2_namesOf_2 : decode cX2_namesOf 2 = .ok (.if_icmp .ne 6, 3) := by decide +kernel
theorem dX2_namesOf_5 : decode cX2_namesOf 5 = .ok (.bipush 6, 2) := by decide +kernel
theorem dX2_namesOf_7 : decode cX2_namesOf 7 = .ok (.ireturn, 1) := by decide +kernel
theorem dX2_namesOf_8 : decode cX2_namesOf 8 = .ok (.iload_n 0, 1) := by decide +kernel
theorem dX2_namesOf_9 : decode cX2_namesOf 9 = .ok (.iconst 3, 1) := by decide +kernel
theorem dX2_namesOf_10 : decode cX2_namesOf 10 = .ok (.invokestatic 15, 3) := by decide +kernel
theorem dX2_namesOf_13 : decode cX2_namesOf 13 = .ok (.ifCond .eq 7, 3) := by decide +kernel
theorem dX2_namesOf_16 : decode cX2_namesOf 16 = .ok (.iconst 3, 1) := by decide +kernel
theorem dX2_namesOf_17 : decode cX2_namesOf 17 = .ok (.goto 4, 3) := by decide +kernel
theorem dX2_namesOf_20 : decode cX2_namesOf 20 = .ok (.iconst 2, 1) := by decide +kernel
theorem dX2_namesOf_21 : decode cX2_namesOf 21 = .ok (.ireturn, 1) := by decide +kernel
theorem dX2_mostKept_0 : decode cX2_mostKept 0 = .ok (.iload_n 0, 1) := by decide +kernel
theorem dX2_mostKept_1 : decode cX2_mostKept 1 = .ok (.iconst 2, 1) := by decide +kernel
theorem dX2_mostKept_2 : decode cX2_mostKept 2 = .ok (.if_icmp .ne 7, 3) := by decide +kernel
theorem dX2_mostKept_5 : decode cX2_mostKept 5 = .ok (.iconst 2, 1) := by decide +kernel
theorem dX2_mostKept_6 : decode cX2_mostKept 6 = .ok (.goto 4, 3) := by decide +kernel
theorem dX2_mostKept_9 : decode cX2_mostKept 9 = .ok (.iconst 1, 1) := by decide +kernel
theorem dX2_mostKept_10 : decode cX2_mostKept 10 = .ok (.ireturn, 1) := by decide +kernel
theorem dX2_lostWith_0 : decode cX2_lostWith 0 = .ok (.iconst 1, 1) := by decide +kernel
theorem dX2_lostWith_1 : decode cX2_lostWith 1 = .ok (.iload_n 1, 1) := by decide +kernel
theorem dX2_lostWith_2 : decode cX2_lostWith 2 = .ok (.ishl, 1) := by decide +kernel
theorem dX2_lostWith_3 : decode cX2_lostWith 3 = .ok (.istore_n 2, 1) := by decide +kernel
theorem dX2_lostWith_4 : decode cX2_lostWith 4 = .ok (.iload_n 0, 1) := by decide +kernel
theorem dX2_lostWith_5 : decode cX2_lostWith 5 = .ok (.iconst 4, 1) := by decide +kernel
theorem dX2_lostWith_6 : decode cX2_lostWith 6 = .ok (.if_icmp .eq 5, 3) := by decide +kernel
theorem dX2_lostWith_9 : decode cX2_lostWith 9 = .ok (.iload_n 2, 1) := by decide +kernel
theorem dX2_lostWith_10 : decode cX2_lostWith 10 = .ok (.ireturn, 1) := by decide +kernel
theorem dX2_lostWith_11 : decode cX2_lostWith 11 = .ok (.iload_n 1, 1) := by decide +kernel
theorem dX2_lostWith_12 : decode cX2_lostWith 12 = .ok (.iconst 5, 1) := by decide +kernel
theorem dX2_lostWith_13 : decode cX2_lostWith 13 = .ok (.if_icmp .ne 7, 3) := by decide +kernel
theorem dX2_lostWith_16 : decode cX2_lostWith 16 = .ok (.iconst 1, 1) := by decide +kernel
theorem dX2_lostWith_17 : decode cX2_lostWith 17 = .ok (.goto 6, 3) := by decide +kernel
theorem dX2_lostWith_20 : decode cX2_lostWith 20 = .ok (.iload_n 2, 1) := by decide +kernel
theorem dX2_lostWith_21 : decode cX2_lostWith 21 = .ok (.iconst 1, 1) := by decide +kernel
theorem dX2_lostWith_22 : decode cX2_lostWith 22 = .ok (.ishl, 1) := by decide +kernel
theorem dX2_lostWith_23 : decode cX2_lostWith 23 = .ok (.istore_n 3, 1) := by decide +kernel
theorem dX2_lostWith_24 : decode cX2_lostWith 24 = .ok (.iload_n 2, 1) := by decide +kernel
theorem dX2_lostWith_25 : decode cX2_lostWith 25 = .ok (.iload_n 3, 1) := by decide +kernel
theorem dX2_lostWith_26 : decode cX2_lostWith 26 = .ok (.ior, 1) := by decide +kernel
theorem dX2_lostWith_27 : decode cX2_lostWith 27 = .ok (.ireturn, 1) := by decide +kernel
theorem dX3_init_0 : decode cX3_init 0 = .ok (.aload_n 0, 1) := by decide +kernel
theorem dX3_init_1 : decode cX3_init 1 = .ok (.invokespecial 3, 3) := by decide +kernel
theorem dX3_init_4 : decode cX3_init 4 = .ok (.aload_n 0, 1) := by decide +kernel
theorem dX3_init_5 : decode cX3_init 5 = .ok (.bipush 6, 2) := by decide +kernel
theorem dX3_init_7 : decode cX3_init 7 = .ok (.newarray .int, 2) := by decide +kernel
theorem dX3_init_9 : decode cX3_init 9 = .ok (.putfield 9, 3) := by decide +kernel
theorem dX3_init_12 : decode cX3_init 12 = .ok (.return_, 1) := by decide +kernel
theorem dX3_read_0 : decode cX3_read 0 = .ok (.iconst 0, 1) := by decide +kernel
theorem dX3_read_1 : decode cX3_read 1 = .ok (.istore_n 2, 1) := by decide +kernel
theorem dX3_read_2 : decode cX3_read 2 = .ok (.iload_n 2, 1) := by decide +kernel
theorem dX3_read_3 : decode cX3_read 3 = .ok (.bipush 6, 2) := by decide +kernel
theorem dX3_read_5 : decode cX3_read 5 = .ok (.if_icmp .ge 20, 3) := by decide +kernel
theorem dX3_read_8 : decode cX3_read 8 = .ok (.aload_n 0, 1) := by decide +kernel
theorem dX3_read_9 : decode cX3_read 9 = .ok (.getfield 9, 3) := by decide +kernel
theorem dX3_read_12 : decode cX3_read 12 = .ok (.iload_n 2, 1) := by decide +kernel
theorem dX3_read_13 : decode cX3_read 13 = .ok (.aload_n 1, 1) := by decide +kernel
theorem dX3_read_14 : decode cX3_read 14 = .ok (.iload_n 2, 1) := by decide +kernel
theorem dX3_read_15 : decode cX3_read 15 = .ok (.invokevirtual 15, 3) := by decide +kernel
theorem dX3_read_18 : decode cX3_read 18 = .ok (.iastore, 1) := by decide +kernel
theorem dX3_read_19 : decode cX3_read 19 = .ok (.iinc 2 1, 3) := by decide +kernel
theorem dX3_read_22 : decode cX3_read 22 = .ok (.goto (-20), 3) := by decide +kernel
theorem dX3_read_25 : decode cX3_read 25 = .ok (.aload_n 0, 1) := by decide +kernel
theorem dX3_read_26 : decode cX3_read 26 = .ok (.aload_n 1, 1) := by decide +kernel
theorem dX3_read_27 : decode cX3_read 27 = .ok (.bipush 7, 2) := by decide +kernel
theorem dX3_read_29 : decode cX3_read 29 = .ok (.invokevirtual 15, 3) := by decide +kernel
theorem dX3_read_32 : decode cX3_read 32 = .ok (.putfield 21, 3) := by decide +kernel
theorem dX3_read_35 : decode cX3_read 35 = .ok (.return_, 1) := by decide +kernel
theorem dX3_stands_0 : decode cX3_stands 0 = .ok (.aload_n 0, 1) := by decide +kernel
theorem dX3_stands_1 : decode cX3_stands 1 = .ok (.getfield 21, 3) := by decide +kernel
theorem dX3_stands_4 : decode cX3_stands 4 = .ok (.ifCond .le 7, 3) := by decide +kernel
theorem dX3_stands_7 : decode cX3_stands 7 = .ok (.iconst 1, 1) := by decide +kernel
theorem dX3_stands_8 : decode cX3_stands 8 = .ok (.goto 4, 3) := by decide +kernel
theorem dX3_stands_11 : decode cX3_stands 11 = .ok (.iconst 0, 1) := by decide +kernel
theorem dX3_stands_12 : decode cX3_stands 12 = .ok (.ireturn, 1) := by decide +kernel
theorem dX3_tenthsOf_0 : decode cX3_tenthsOf 0 = .ok (.iload_n 1, 1) := by decide +kernel
theorem dX3_tenthsOf_1 : decode cX3_tenthsOf 1 = .ok (.ifCond .lt 18, 3) := by decide +kernel
theorem dX3_tenthsOf_4 : decode cX3_tenthsOf 4 = .ok (.iload_n 1, 1) := by decide +kernel
theorem dX3_tenthsOf_5 : decode cX3_tenthsOf 5 = .ok (.bipush 6, 2) := by decide +kernel
theorem dX3_tenthsOf_7 : decode cX3_tenthsOf 7 = .ok (.if_icmp .ge 12, 3) := by decide +kernel
theorem dX3_tenthsOf_10 : decode cX3_tenthsOf 10 = .ok (.aload_n 0, 1) := by decide +kernel
theorem dX3_tenthsOf_11 : decode cX3_tenthsOf 11 = .ok (.getfield 9, 3) := by decide +kernel
theorem dX3_tenthsOf_14 : decode cX3_tenthsOf 14 = .ok (.iload_n 1, 1) := by decide +kernel
theorem dX3_tenthsOf_15 : decode cX3_tenthsOf 15 = .ok (.iaload, 1) := by decide +kernel
theorem dX3_tenthsOf_16 : decode cX3_tenthsOf 16 = .ok (.goto 4, 3) := by decide +kernel
theorem dX3_tenthsOf_19 : decode cX3_tenthsOf 19 = .ok (.iconst 0, 1) := by decide +kernel
theorem dX3_tenthsOf_20 : decode cX3_tenthsOf 20 = .ok (.ireturn, 1) := by decide +kernel
theorem dX3_mayBurn_0 : decode cX3_mayBurn 0 = .ok (.aload_n 0, 1) := by decide +kernel
theorem dX3_mayBurn_1 : decode cX3_mayBurn 1 = .ok (.iload_n 1, 1) := by decide +kernel
theorem dX3_mayBurn_2 : decode cX3_mayBurn 2 = .ok (.invokevirtual 25, 3) := by decide +kernel
theorem dX3_mayBurn_5 : decode cX3_mayBurn 5 = .ok (.ifCond .le 7, 3) := by decide +kernel
theorem dX3_mayBurn_8 : decode cX3_mayBurn 8 = .ok (.iconst 1, 1) := by decide +kernel
theorem dX3_mayBurn_9 : decode cX3_mayBurn 9 = .ok (.goto 4, 3) := by decide +kernel
theorem dX3_mayBurn_12 : decode cX3_mayBurn 12 = .ok (.iconst 0, 1) := by decide +kernel
theorem dX3_mayBurn_13 : decode cX3_mayBurn 13 = .ok (.ireturn, 1) := by decide +kernel
theorem dX3_lettersThatMayBurn_0 : decode cX3_lettersThatMayBurn 0 = .ok (.iconst 0, 1) := by decide +kernel
theorem dX3_lettersThatMayBurn_1 : decode cX3_lettersThatMayBurn 1 = .ok (.istore_n 1, 1) := by decide +kernel
theorem dX3_lettersThatMayBurn_2 : decode cX3_lettersThatMayBurn 2 = .ok (.iconst 0, 1) := by decide +kernel
theorem dX3_lettersThatMayBurn_3 : decode cX3_lettersThatMayBurn 3 = .ok (.istore_n 2, 1) := by decide +kernel
theorem dX3_lettersThatMayBurn_4 : decode cX3_lettersThatMayBurn 4 = .ok (.iload_n 2, 1) := by decide +kernel
theorem dX3_lettersThatMayBurn_5 : decode cX3_lettersThatMayBurn 5 = .ok (.bipush 6, 2) := by decide +kernel
theorem dX3_lettersThatMayBurn_7 : decode cX3_lettersThatMayBurn 7 = .ok (.if_icmp .ge 20, 3) := by decide +kernel
theorem dX3_lettersThatMayBurn_10 : decode cX3_lettersThatMayBurn 10 = .ok (.aload_n 0, 1) := by decide +kernel
theorem dX3_lettersThatMayBurn_11 : decode cX3_lettersThatMayBurn 11 = .ok (.iload_n 2, 1) := by decide +kernel
theorem dX3_lettersThatMayBurn_12 : decode cX3_lettersThatMayBurn 12 = .ok (.invokevirtual 28, 3) := by decide +kernel
theorem dX3_lettersThatMayBurn_15 : decode cX3_lettersThatMayBurn 15 = .ok (.ifCond .eq 6, 3) := by decide +kernel
theorem dX3_lettersThatMayBurn_18 : decode cX3_lettersThatMayBurn 18 = .ok (.iinc 1 1, 3) := by decide +kernel
theorem dX3_lettersThatMayBurn_21 : decode cX3_lettersThatMayBurn 21 = .ok (.iinc 2 1, 3) := by decide +kernel
theorem dX3_lettersThatMayBurn_24 : decode cX3_lettersThatMayBurn 24 = .ok (.goto (-20), 3) := by decide +kernel
theorem dX3_lettersThatMayBurn_27 : decode cX3_lettersThatMayBurn 27 = .ok (.iload_n 1, 1) := by decide +kernel
theorem dX3_lettersThatMayBurn_28 : decode cX3_lettersThatMayBurn 28 = .ok (.ireturn, 1) := by decide +kernel
theorem dX3_letterByDraw_0 : decode cX3_letterByDraw 0 = .ok (.iload_n 1, 1) := by decide +kernel
theorem dX3_letterByDraw_1 : decode cX3_letterByDraw 1 = .ok (.istore_n 2, 1) := by decide +kernel
theorem dX3_letterByDraw_2 : decode cX3_letterByDraw 2 = .ok (.iconst 0, 1) := by decide +kernel
theorem dX3_letterByDraw_3 : decode cX3_letterByDraw 3 = .ok (.istore_n 3, 1) := by decide +kernel
theorem dX3_letterByDraw_4 : decode cX3_letterByDraw 4 = .ok (.iload_n 3, 1) := by decide +kernel
theorem dX3_letterByDraw_5 : decode cX3_letterByDraw 5 = .ok (.iconst 5, 1) := by decide +kernel
theorem dX3_letterByDraw_6 : decode cX3_letterByDraw 6 = .ok (.if_icmp .ge 23, 3) := by decide +kernel
theorem dX3_letterByDraw_9 : decode cX3_letterByDraw 9 = .ok (.iload_n 2, 1) := by decide +kernel
theorem dX3_letterByDraw_10 : decode cX3_letterByDraw 10 = .ok (.aload_n 0, 1) := by decide +kernel
theorem dX3_letterByDraw_11 : decode cX3_letterByDraw 11 = .ok (.iload_n 3, 1) := by decide +kernel
theorem dX3_letterByDraw_12 : decode cX3_letterByDraw 12 = .ok (.invokevirtual 25, 3) := by decide +kernel
theorem dX3_letterByDraw_15 : decode cX3_letterByDraw 15 = .ok (.isub, 1) := by decide +kernel
theorem dX3_letterByDraw_16 : decode cX3_letterByDraw 16 = .ok (.istore_n 2, 1) := by decide +kernel
theorem dX3_letterByDraw_17 : decode cX3_letterByDraw 17 = .ok (.iload_n 2, 1) := by decide +kernel
theorem dX3_letterByDraw_18 : decode cX3_letterByDraw 18 = .ok (.ifCond .ge 5, 3) := by decide +kernel
theorem dX3_letterByDraw_21 : decode cX3_letterByDraw 21 = .ok (.iload_n 3, 1) := by decide +kernel
theorem dX3_letterByDraw_22 : decode cX3_letterByDraw 22 = .ok (.ireturn, 1) := by decide +kernel
theorem dX3_letterByDraw_23 : decode cX3_letterByDraw 23 = .ok (.iinc 3 1, 3) := by decide +kernel
theorem dX3_letterByDraw_26 : decode cX3_letterByDraw 26 = .ok (.goto (-22), 3) := by decide +kernel
theorem dX3_letterByDraw_29 : decode cX3_letterByDraw 29 = .ok (.iconst 5, 1) := by decide +kernel
theorem dX3_letterByDraw_30 : decode cX3_letterByDraw 30 = .ok (.ireturn, 1) := by decide +kernel
theorem dX4_init_0 : decode cX4_init 0 = .ok (.aload_n 0, 1) := by decide +kernel
theorem dX4_init_1 : decode cX4_init 1 = .ok (.invokespecial 3, 3) := by decide +kernel
theorem dX4_init_4 : decode cX4_init 4 = .ok (.aload_n 0, 1) := by decide +kernel
theorem dX4_init_5 : decode cX4_init 5 = .ok (.bipush 10, 2) := by decide +kernel
theorem dX4_init_7 : decode cX4_init 7 = .ok (.newarray .int, 2) := by decide +kernel
theorem dX4_init_9 : decode cX4_init 9 = .ok (.putfield 11, 3) := by decide +kernel
theorem dX4_init_12 : decode cX4_init 12 = .ok (.return_, 1) := by decide +kernel
theorem dX4_isFull_0 : decode cX4_isFull 0 = .ok (.aload_n 0, 1) := by decide +kernel
theorem dX4_isFull_1 : decode cX4_isFull 1 = .ok (.getfield 15, 3) := by decide +kernel
theorem dX4_isFull_4 : decode cX4_isFull 4 = .ok (.bipush 10, 2) := by decide +kernel
theorem dX4_isFull_6 : decode cX4_isFull 6 = .ok (.if_icmp .lt 7, 3) := by decide +kernel
theorem dX4_isFull_9 : decode cX4_isFull 9 = .ok (.iconst 1, 1) := by decide +kernel
theorem dX4_isFull_10 : decode cX4_isFull 10 = .ok (.goto 4, 3) := by decide +kernel
theorem dX4_isFull_13 : decode cX4_isFull 13 = .ok (.iconst 0, 1) := by decide +kernel
theorem dX4_isFull_14 : decode cX4_isFull 14 = .ok (.ireturn, 1) := by decide +kernel
theorem dX4_append_0 : decode cX4_append 0 = .ok (.aload_n 0, 1) := by decide +kernel
theorem dX4_append_1 : decode cX4_append 1 = .ok (.getfield 15, 3) := by decide +kernel
theorem dX4_append_4 : decode cX4_append 4 = .ok (.ifCond .lt 32, 3) := by decide +kernel
theorem dX4_append_7 : decode cX4_append 7 = .ok (.aload_n 0, 1) := by decide +kernel
theorem dX4_append_8 : decode cX4_append 8 = .ok (.getfield 15, 3) := by decide +kernel
theorem dX4_append_11 : decode cX4_append 11 = .ok (.bipush 10, 2) := by decide +kernel
theorem dX4_append_13 : decode cX4_append 13 = .ok (.if_icmp .ge 23, 3) := by decide +kernel
theorem dX4_append_16 : decode cX4_append 16 = .ok (.aload_n 0, 1) := by decide +kernel
theorem dX4_append_17 : decode cX4_append 17 = .ok (.getfield 11, 3) := by decide +kernel
theorem dX4_append_20 : decode cX4_append 20 = .ok (.aload_n 0, 1) := by decide +kernel
theorem dX4_append_21 : decode cX4_append 21 = .ok (.getfield 15, 3) := by decide +kernel
theorem dX4_append_24 : decode cX4_append 24 = .ok (.iload_n 1, 1) := by decide +kernel
theorem dX4_append_25 : decode cX4_append 25 = .ok (.iastore, 1) := by decide +kernel
theorem dX4_append_26 : decode cX4_append 26 = .ok (.aload_n 0, 1) := by decide +kernel
theorem dX4_append_27 : decode cX4_append 27 = .ok (.dup, 1) := by decide +kernel
theorem dX4_append_28 : decode cX4_append 28 = .ok (.getfield 15, 3) := by decide +kernel
theorem dX4_append_31 : decode cX4_append 31 = .ok (.iconst 1, 1) := by decide +kernel
theorem dX4_append_32 : decode cX4_append 32 = .ok (.iadd, 1) := by decide +kernel
theorem dX4_append_33 : decode cX4_append 33 = .ok (.putfield 15, 3) := by decide +kernel
theorem dX4_append_36 : decode cX4_append 36 = .ok (.aload_n 0, 1) := by decide +kernel
theorem dX4_append_37 : decode cX4_append 37 = .ok (.getfield 15, 3) := by decide +kernel
theorem dX4_append_40 : decode cX4_append 40 = .ok (.ireturn, 1) := by decide +kernel
theorem dX4_clear_0 : decode cX4_clear 0 = .ok (.aload_n 0, 1) := by decide +kernel
theorem dX4_clear_1 : decode cX4_clear 1 = .ok (.getfield 15, 3) := by decide +kernel
theorem dX4_clear_4 : decode cX4_clear 4 = .ok (.istore_n 1, 1) := by decide +kernel
theorem dX4_clear_5 : decode cX4_clear 5 = .ok (.aload_n 0, 1) := by decide +kernel
theorem dX4_clear_6 : decode cX4_clear 6 = .ok (.iconst 0, 1) := by decide +kernel
theorem dX4_clear_7 : decode cX4_clear 7 = .ok (.putfield 15, 3) := by decide +kernel
theorem dX4_clear_10 : decode cX4_clear 10 = .ok (.iload_n 1, 1) := by decide +kernel
theorem dX4_clear_11 : decode cX4_clear 11 = .ok (.ireturn, 1) := by decide +kernel
theorem dX4_codeAt_0 : decode cX4_codeAt 0 = .ok (.iload_n 1, 1) := by decide +kernel
theorem dX4_codeAt_1 : decode cX4_codeAt 1 = .ok (.ifCond .lt 18, 3) := by decide +kernel
theorem dX4_codeAt_4 : decode cX4_codeAt 4 = .ok (.iload_n 1, 1) := by decide +kernel
theorem dX4_codeAt_5 : decode cX4_codeAt 5 = .ok (.bipush 10, 2) := by decide +kernel
theorem dX4_codeAt_7 : decode cX4_codeAt 7 = .ok (.if_icmp .ge 12, 3) := by decide +kernel
theorem dX4_codeAt_10 : decode cX4_codeAt 10 = .ok (.aload_n 0, 1) := by decide +kernel
theorem dX4_codeAt_11 : decode cX4_codeAt 11 = .ok (.getfield 11, 3) := by decide +kernel
theorem dX4_codeAt_14 : decode cX4_codeAt 14 = .ok (.iload_n 1, 1) := by decide +kernel
theorem dX4_codeAt_15 : decode cX4_codeAt 15 = .ok (.iaload, 1) := by decide +kernel
theorem dX4_codeAt_16 : decode cX4_codeAt 16 = .ok (.goto 4, 3) := by decide +kernel
theorem dX4_codeAt_19 : decode cX4_codeAt 19 = .ok (.iconst 0, 1) := by decide +kernel
theorem dX4_codeAt_20 : decode cX4_codeAt 20 = .ok (.ireturn, 1) := by decide +kernel
theorem dX4_digitAt_0 : decode cX4_digitAt 0 = .ok (.aload_n 0, 1) := by decide +kernel
theorem dX4_digitAt_1 : decode cX4_digitAt 1 = .ok (.iload_n 1, 1) := by decide +kernel
theorem dX4_digitAt_2 : decode cX4_digitAt 2 = .ok (.invokevirtual 19, 3) := by decide +kernel
theorem dX4_digitAt_5 : decode cX4_digitAt 5 = .ok (.bipush 48, 2) := by decide +kernel
theorem dX4_digitAt_7 : decode cX4_digitAt 7 = .ok (.isub, 1) := by decide +kernel
theorem dX4_digitAt_8 : decode cX4_digitAt 8 = .ok (.ireturn, 1) := by decide +kernel
theorem dX4_isLaw_0 : decode cX4_isLaw 0 = .ok (.aload_n 0, 1) := by decide +kernel
theorem dX4_isLaw_1 : decode cX4_isLaw 1 = .ok (.getfield 15, 3) := by decide +kernel
theorem dX4_isLaw_4 : decode cX4_isLaw 4 = .ok (.bipush 8, 2) := by decide +kernel
theorem dX4_isLaw_6 : decode cX4_isLaw 6 = .ok (.if_icmp .ne 16, 3) := by decide +kernel
theorem dX4_isLaw_9 : decode cX4_isLaw 9 = .ok (.aload_n 0, 1) := by decide +kernel
theorem dX4_isLaw_10 : decode cX4_isLaw 10 = .ok (.invokevirtual 23, 3) := by decide +kernel
theorem dX4_isLaw_13 : decode cX4_isLaw 13 = .ok (.bipush 8, 2) := by decide +kernel
theorem dX4_isLaw_15 : decode cX4_isLaw 15 = .ok (.if_icmp .ne 7, 3) := by decide +kernel
theorem dX4_isLaw_18 : decode cX4_isLaw 18 = .ok (.iconst 1, 1) := by decide +kernel
theorem dX4_isLaw_19 : decode cX4_isLaw 19 = .ok (.goto 4, 3) := by decide +kernel
theorem dX4_isLaw_22 : decode cX4_isLaw 22 = .ok (.iconst 0, 1) := by decide +kernel
theorem dX4_isLaw_23 : decode cX4_isLaw 23 = .ok (.ireturn, 1) := by decide +kernel
theorem dX4_firstFault_0 : decode cX4_firstFault 0 = .ok (.iconst 0, 1) := by decide +kernel
theorem dX4_firstFault_1 : decode cX4_firstFault 1 = .ok (.istore_n 1, 1) := by decide +kernel
theorem dX4_firstFault_2 : decode cX4_firstFault 2 = .ok (.iconst 0, 1) := by decide +kernel
theorem dX4_firstFault_3 : decode cX4_firstFault 3 = .ok (.istore_n 2, 1) := by decide +kernel
theorem dX4_firstFault_4 : decode cX4_firstFault 4 = .ok (.iload_n 2, 1) := by decide +kernel
theorem dX4_firstFault_5 : decode cX4_firstFault 5 = .ok (.aload_n 0, 1) := by decide +kernel
theorem dX4_firstFault_6 : decode cX4_firstFault 6 = .ok (.getfield 15, 3) := by decide +kernel
theorem dX4_firstFault_9 : decode cX4_firstFault 9 = .ok (.if_icmp .ge 34, 3) := by decide +kernel
theorem dX4_firstFault_12 : decode cX4_firstFault 12 = .ok (.iload_n 2, 1) := by decide +kernel
theorem dX4_firstFault_13 : decode cX4_firstFault 13 = .ok (.bipush 6, 2) := by decide +kernel
theorem dX4_firstFault_15 : decode cX4_firstFault 15 = .ok (.if_icmp .ge 11, 3) := by decide +kernel
theorem dX4_firstFault_18 : decode cX4_firstFault 18 = .ok (.iload_n 1, 1) := by decide +kernel
theorem dX4_firstFault_19 : decode cX4_firstFault 19 = .ok (.aload_n 0, 1) := by decide +kernel
theorem dX4_firstFault_20 : decode cX4_firstFault 20 = .ok (.iload_n 2, 1) := by decide +kernel
theorem dX4_firstFault_21 : decode cX4_firstFault 21 = .ok (.invokevirtual 27, 3) := by decide +kernel
theorem dX4_firstFault_24 : decode cX4_firstFault 24 = .ok (.iadd, 1) := by decide +kernel
theorem dX4_firstFault_25 : decode cX4_firstFault 25 = .ok (.istore_n 1, 1) := by decide +kernel
theorem dX4_firstFault_26 : decode cX4_firstFault 26 = .ok (.aload_n 0, 1) := by decide +kernel
theorem dX4_firstFault_27 : decode cX4_firstFault 27 = .ok (.iload_n 2, 1) := by decide +kernel
theorem dX4_firstFault_28 : decode cX4_firstFault 28 = .ok (.iload_n 1, 1) := by decide +kernel
theorem dX4_firstFault_29 : decode cX4_firstFault 29 = .ok (.invokevirtual 30, 3) := by decide +kernel
theorem dX4_firstFault_32 : decode cX4_firstFault 32 = .ok (.ifCond .ne 5, 3) := by decide +kernel
theorem dX4_firstFault_35 : decode cX4_firstFault 35 = .ok (.iload_n 2, 1) := by decide +kernel
theorem dX4_firstFault_36 : decode cX4_firstFault 36 = .ok (.ireturn, 1) := by decide +kernel
theorem dX4_firstFault_37 : decode cX4_firstFault 37 = .ok (.iinc 2 1, 3) := by decide +kernel
theorem dX4_firstFault_40 : decode cX4_firstFault 40 = .ok (.goto (-36), 3) := by decide +kernel
theorem dX4_firstFault_43 : decode cX4_firstFault 43 = .ok (.aload_n 0, 1) := by decide +kernel
theorem dX4_firstFault_44 : decode cX4_firstFault 44 = .ok (.getfield 15, 3) := by decide +kernel
theorem dX4_firstFault_47 : decode cX4_firstFault 47 = .ok (.ireturn, 1) := by decide +kernel
theorem dX4_mayStand_0 : decode cX4_mayStand 0 = .ok (.iload_n 1, 1) := by decide +kernel
theorem dX4_mayStand_1 : decode cX4_mayStand 1 = .ok (.bipush 6, 2) := by decide +kernel
theorem dX4_mayStand_3 : decode cX4_mayStand 3 = .ok (.if_icmp .ne 19, 3) := by decide +kernel
theorem dX4_mayStand_6 : decode cX4_mayStand 6 = .ok (.aload_n 0, 1) := by decide +kernel
theorem dX4_mayStand_7 : decode cX4_mayStand 7 = .ok (.iload_n 1, 1) := by decide +kernel
theorem dX4_mayStand_8 : decode cX4_mayStand 8 = .ok (.invokevirtual 19, 3) := by decide +kernel
theorem dX4_mayStand_11 : decode cX4_mayStand 11 = .ok (.bipush 59, 2) := by decide +kernel
theorem dX4_mayStand_13 : decode cX4_mayStand 13 = .ok (.if_icmp .ne 7, 3) := by decide +kernel
theorem dX4_mayStand_16 : decode cX4_mayStand 16 = .ok (.iconst 1, 1) := by decide +kernel
theorem dX4_mayStand_17 : decode cX4_mayStand 17 = .ok (.goto 4, 3) := by decide +kernel
theorem dX4_mayStand_20 : decode cX4_mayStand 20 = .ok (.iconst 0, 1) := by decide +kernel
theorem dX4_mayStand_21 : decode cX4_mayStand 21 = .ok (.ireturn, 1) := by decide +kernel
theorem dX4_mayStand_22 : decode cX4_mayStand 22 = .ok (.iload_n 1, 1) := by decide +kernel
theorem dX4_mayStand_23 : decode cX4_mayStand 23 = .ok (.bipush 7, 2) := by decide +kernel
theorem dX4_mayStand_25 : decode cX4_mayStand 25 = .ok (.if_icmp .ne 15, 3) := by decide +kernel
theorem dX4_mayStand_28 : decode cX4_mayStand 28 = .ok (.aload_n 0, 1) := by decide +kernel
theorem dX4_mayStand_29 : decode cX4_mayStand 29 = .ok (.iload_n 1, 1) := by decide +kernel
theorem dX4_mayStand_30 : decode cX4_mayStand 30 = .ok (.invokevirtual 27, 3) := by decide +kernel
theorem dX4_mayStand_33 : decode cX4_mayStand 33 = .ok (.iconst 1, 1) := by decide +kernel
theorem dX4_mayStand_34 : decode cX4_mayStand 34 = .ok (.bipush 9, 2) := by decide +kernel
theorem dX4_mayStand_36 : decode cX4_mayStand 36 = .ok (.invokestatic 34, 3) := by decide +kernel
theorem dX4_mayStand_39 : decode cX4_mayStand 39 = .ok (.ireturn, 1) := by decide +kernel
theorem dX4_mayStand_40 : decode cX4_mayStand 40 = .ok (.iload_n 1, 1) := by decide +kernel
theorem dX4_mayStand_41 : decode cX4_mayStand 41 = .ok (.bipush 7, 2) := by decide +kernel
theorem dX4_mayStand_43 : decode cX4_mayStand 43 = .ok (.if_icmp .gt 17, 3) := by decide +kernel
theorem dX4_mayStand_46 : decode cX4_mayStand 46 = .ok (.aload_n 0, 1) := by decide +kernel
theorem dX4_mayStand_47 : decode cX4_mayStand 47 = .ok (.iload_n 1, 1) := by decide +kernel
theorem dX4_mayStand_48 : decode cX4_mayStand 48 = .ok (.invokevirtual 27, 3) := by decide +kernel
theorem dX4_mayStand_51 : decode cX4_mayStand 51 = .ok (.iconst 0, 1) := by decide +kernel
theorem dX4_mayStand_52 : decode cX4_mayStand 52 = .ok (.bipush 9, 2) := by decide +kernel
theorem dX4_mayStand_54 : decode cX4_mayStand 54 = .ok (.invokestatic 34, 3) := by decide +kernel
theorem dX4_mayStand_57 : decode cX4_mayStand 57 = .ok (.ifCond .ne 5, 3) := by decide +kernel
theorem dX4_mayStand_60 : decode cX4_mayStand 60 = .ok (.iconst 0, 1) := by decide +kernel
theorem dX4_mayStand_61 : decode cX4_mayStand 61 = .ok (.ireturn, 1) := by decide +kernel
theorem dX4_mayStand_62 : decode cX4_mayStand 62 = .ok (.iload_n 1, 1) := by decide +kernel
theorem dX4_mayStand_63 : decode cX4_mayStand 63 = .ok (.iconst 5, 1) := by decide +kernel
theorem dX4_mayStand_64 : decode cX4_mayStand 64 = .ok (.if_icmp .ne 17, 3) := by decide +kernel
theorem dX4_mayStand_67 : decode cX4_mayStand 67 = .ok (.iload_n 2, 1) := by decide +kernel
theorem dX4_mayStand_68 : decode cX4_mayStand 68 = .ok (.bipush 10, 2) := by decide +kernel
theorem dX4_mayStand_70 : decode cX4_mayStand 70 = .ok (.if_icmp .ne 7, 3) := by decide +kernel
theorem dX4_mayStand_73 : decode cX4_mayStand 73 = .ok (.iconst 1, 1) := by decide +kernel
theorem dX4_mayStand_74 : decode cX4_mayStand 74 = .ok (.goto 18, 3) := by decide +kernel
theorem dX4_mayStand_77 : decode cX4_mayStand 77 = .ok (.iconst 0, 1) := by decide +kernel
theorem dX4_mayStand_78 : decode cX4_mayStand 78 = .ok (.goto 14, 3) := by decide +kernel
theorem dX4_mayStand_81 : decode cX4_mayStand 81 = .ok (.iload_n 2, 1) := by decide +kernel
theorem dX4_mayStand_82 : decode cX4_mayStand 82 = .ok (.bipush 10, 2) := by decide +kernel
theorem dX4_mayStand_84 : decode cX4_mayStand 84 = .ok (.if_icmp .gt 7, 3) := by decide +kernel
theorem dX4_mayStand_87 : decode cX4_mayStand 87 = .ok (.iconst 1, 1) := by decide +kernel
theorem dX4_mayStand_88 : decode cX4_mayStand 88 = .ok (.goto 4, 3) := by decide +kernel
theorem dX4_mayStand_91 : decode cX4_mayStand 91 = .ok (.iconst 0, 1) := by decide +kernel
theorem dX4_mayStand_92 : decode cX4_mayStand 92 = .ok (.ireturn, 1) := by decide +kernel
theorem dX5_leavesOf_0 : decode cX5_leavesOf 0 = .ok (.lload_n 0, 1) := by decide +kernel
theorem dX5_leavesOf_1 : decode cX5_leavesOf 1 = .ok (.iload_n 2, 1) := by decide +kernel
theorem dX5_leavesOf_2 : decode cX5_leavesOf 2 = .ok (.bipush 8, 2) := by decide +kernel
theorem dX5_leavesOf_4 : decode cX5_leavesOf 4 = .ok (.imul, 1) := by decide +kernel
theorem dX5_leavesOf_5 : decode cX5_leavesOf 5 = .ok (.lushr, 1) := by decide +kernel
theorem dX5_leavesOf_6 : decode cX5_leavesOf 6 = .ok (.l2i, 1) := by decide +kernel
theorem dX5_leavesOf_7 : decode cX5_leavesOf 7 = .ok (.bipush 63, 2) := by decide +kernel
theorem dX5_leavesOf_9 : decode cX5_leavesOf 9 = .ok (.iand, 1) := by decide +kernel
theorem dX5_leavesOf_10 : decode cX5_leavesOf 10 = .ok (.ireturn, 1) := by decide +kernel
theorem dX5_keptOf_0 : decode cX5_keptOf 0 = .ok (.lload_n 0, 1) := by decide +kernel
theorem dX5_keptOf_1 : decode cX5_keptOf 1 = .ok (.iload_n 2, 1) := by decide +kernel
theorem dX5_keptOf_2 : decode cX5_keptOf 2 = .ok (.bipush 8, 2) := by decide +kernel
theorem dX5_keptOf_4 : decode cX5_keptOf 4 = .ok (.imul, 1) := by decide +kernel
theorem dX5_keptOf_5 : decode cX5_keptOf 5 = .ok (.bipush 6, 2) := by decide +kernel
theorem dX5_keptOf_7 : decode cX5_keptOf 7 = .ok (.iadd, 1) := by decide +kernel
theorem dX5_keptOf_8 : decode cX5_keptOf 8 = .ok (.lushr, 1) := by decide +kernel
theorem dX5_keptOf_9 : decode cX5_keptOf 9 = .ok (.l2i, 1) := by decide +kernel
theorem dX5_keptOf_10 : decode cX5_keptOf 10 = .ok (.iconst 3, 1) := by decide +kernel
theorem dX5_keptOf_11 : decode cX5_keptOf 11 = .ok (.iand, 1) := by decide +kernel
theorem dX5_keptOf_12 : decode cX5_keptOf 12 = .ok (.ireturn, 1) := by decide +kernel
theorem dX5_lives_0 : decode cX5_lives 0 = .ok (.lload_n 0, 1) := by decide +kernel
theorem dX5_lives_1 : decode cX5_lives 1 = .ok (.iload_n 2, 1) := by decide +kernel
theorem dX5_lives_2 : decode cX5_lives 2 = .ok (.invokestatic 11, 3) := by decide +kernel
theorem dX5_lives_5 : decode cX5_lives 5 = .ok (.ifCond .eq 7, 3) := by decide +kernel
theorem dX5_lives_8 : decode cX5_lives 8 = .ok (.iconst 1, 1) := by decide +kernel
theorem dX5_lives_9 : decode cX5_lives 9 = .ok (.goto 4, 3) := by decide +kernel
theorem dX5_lives_12 : decode cX5_lives 12 = .ok (.iconst 0, 1) := by decide +kernel
theorem dX5_lives_13 : decode cX5_lives 13 = .ok (.ireturn, 1) := by decide +kernel
theorem dX5_hasLeaf_0 : decode cX5_hasLeaf 0 = .ok (.lload_n 0, 1) := by decide +kernel
theorem dX5_hasLeaf_1 : decode cX5_hasLeaf 1 = .ok (.iload_n 2, 1) := by decide +kernel
theorem dX5_hasLeaf_2 : decode cX5_hasLeaf 2 = .ok (.bipush 8, 2) := by decide +kernel
theorem dX5_hasLeaf_4 : decode cX5_hasLeaf 4 = .ok (.imul, 1) := by decide +kernel
theorem dX5_hasLeaf_5 : decode cX5_hasLeaf 5 = .ok (.iload_n 3, 1) := by decide +kernel
theorem dX5_hasLeaf_6 : decode cX5_hasLeaf 6 = .ok (.iadd, 1) := by decide +kernel
theorem dX5_hasLeaf_7 : decode cX5_hasLeaf 7 = .ok (.lushr, 1) := by decide +kernel
theorem dX5_hasLeaf_8 : decode cX5_hasLeaf 8 = .ok (.lconst 1, 1) := by decide +kernel
theorem dX5_hasLeaf_9 : decode cX5_hasLeaf 9 = .ok (.land, 1) := by decide +kernel
theorem dX5_hasLeaf_10 : decode cX5_hasLeaf 10 = .ok (.lconst 0, 1) := by decide +kernel
theorem dX5_hasLeaf_11 : decode cX5_hasLeaf 11 = .ok (.lcmp, 1) := by decide +kernel
theorem dX5_hasLeaf_12 : decode cX5_hasLeaf 12 = .ok (.ifCond .eq 7, 3) := by decide +kernel
theorem dX5_hasLeaf_15 : decode cX5_hasLeaf 15 = .ok (.iconst 1, 1) := by decide +kernel
theorem dX5_hasLeaf_16 : decode cX5_hasLeaf 16 = .ok (.goto 4, 3) := by decide +kernel
theorem dX5_hasLeaf_19 : decode cX5_hasLeaf 19 = .ok (.iconst 0, 1) := by decide +kernel
theorem dX5_hasLeaf_20 : decode cX5_hasLeaf 20 = .ok (.ireturn, 1) := by decide +kernel
theorem dX5_living_0 : decode cX5_living 0 = .ok (.iconst 0, 1) := by decide +kernel
theorem dX5_living_1 : decode cX5_living 1 = .ok (.istore_n 2, 1) := by decide +kernel
theorem dX5_living_2 : decode cX5_living 2 = .ok (.iconst 0, 1) := by decide +kernel
theorem dX5_living_3 : decode cX5_living 3 = .ok (.istore_n 3, 1) := by decide +kernel
theorem dX5_living_4 : decode cX5_living 4 = .ok (.iload_n 3, 1) := by decide +kernel
theorem dX5_living_5 : decode cX5_living 5 = .ok (.iconst 5, 1) := by decide +kernel
theorem dX5_living_6 : decode cX5_living 6 = .ok (.if_icmp .ge 23, 3) := by decide +kernel
theorem dX5_living_9 : decode cX5_living 9 = .ok (.lload_n 0, 1) := by decide +kernel
theorem dX5_living_10 : decode cX5_living 10 = .ok (.iload_n 3, 1) := by decide +kernel
theorem dX5_living_11 : decode cX5_living 11 = .ok (.invokestatic 15, 3) := by decide +kernel
theorem dX5_living_14 : decode cX5_living 14 = .ok (.ifCond .eq 9, 3) := by decide +kernel
theorem dX5_living_17 : decode cX5_living 17 = .ok (.iload_n 2, 1) := by decide +kernel
theorem dX5_living_18 : decode cX5_living 18 = .ok (.iconst 1, 1) := by decide +kernel
theorem dX5_living_19 : decode cX5_living 19 = .ok (.iload_n 3, 1) := by decide +kernel
theorem dX5_living_20 : decode cX5_living 20 = .ok (.ishl, 1) := by decide +kernel
theorem dX5_living_21 : decode cX5_living 21 = .ok (.ior, 1) := by decide +kernel
theorem dX5_living_22 : decode cX5_living 22 = .ok (.istore_n 2, 1) := by decide +kernel
theorem dX5_living_23 : decode cX5_living 23 = .ok (.iinc 3 1, 3) := by decide +kernel
theorem dX5_living_26 : decode cX5_living 26 = .ok (.goto (-22), 3) := by decide +kernel
theorem dX5_living_29 : decode cX5_living 29 = .ok (.iload_n 2, 1) := by decide +kernel
theorem dX5_living_30 : decode cX5_living 30 = .ok (.ireturn, 1) := by decide +kernel
theorem dX5_fullness_0 : decode cX5_fullness 0 = .ok (.lload_n 0, 1) := by decide +kernel
theorem dX5_fullness_1 : decode cX5_fullness 1 = .ok (.ldc2_w 19, 3) := by decide +kernel
theorem dX5_fullness_4 : decode cX5_fullness 4 = .ok (.iload_n 2, 1) := by decide +kernel
theorem dX5_fullness_5 : decode cX5_fullness 5 = .ok (.lshl, 1) := by decide +kernel
theorem dX5_fullness_6 : decode cX5_fullness 6 = .ok (.land, 1) := by decide +kernel
theorem dX5_fullness_7 : decode cX5_fullness 7 = .ok (.invokestatic 21, 3) := by decide +kernel
theorem dX5_fullness_10 : decode cX5_fullness 10 = .ok (.ireturn, 1) := by decide +kernel
theorem dX5_allLeaves_0 : decode cX5_allLeaves 0 = .ok (.lload_n 0, 1) := by decide +kernel
theorem dX5_allLeaves_1 : decode cX5_allLeaves 1 = .ok (.ldc2_w 27, 3) := by decide +kernel
theorem dX5_allLeaves_4 : decode cX5_allLeaves 4 = .ok (.land, 1) := by decide +kernel
theorem dX5_allLeaves_5 : decode cX5_allLeaves 5 = .ok (.invokestatic 21, 3) := by decide +kernel
theorem dX5_allLeaves_8 : decode cX5_allLeaves 8 = .ok (.ireturn, 1) := by decide +kernel
theorem dX5_turned_0 : decode cX5_turned 0 = .ok (.lload_n 0, 1) := by decide +kernel
theorem dX5_turned_1 : decode cX5_turned 1 = .ok (.lconst 1, 1) := by decide +kernel
theorem dX5_turned_2 : decode cX5_turned 2 = .ok (.iload_n 2, 1) := by decide +kernel
theorem dX5_turned_3 : decode cX5_turned 3 = .ok (.bipush 8, 2) := by decide +kernel
theorem dX5_turned_5 : decode cX5_turned 5 = .ok (.imul, 1) := by decide +kernel
theorem dX5_turned_6 : decode cX5_turned 6 = .ok (.iload_n 3, 1) := by decide +kernel
theorem dX5_turned_7 : decode cX5_turned 7 = .ok (.iadd, 1) := by decide +kernel
theorem dX5_turned_8 : decode cX5_turned 8 = .ok (.lshl, 1) := by decide +kernel
theorem dX5_turned_9 : decode cX5_turned 9 = .ok (.lxor, 1) := by decide +kernel
theorem dX5_turned_10 : decode cX5_turned 10 = .ok (.lreturn, 1) := by decide +kernel
theorem dX5_moved_0 : decode cX5_moved 0 = .ok (.lload_n 0, 1) := by decide +kernel
theorem dX5_moved_1 : decode cX5_moved 1 = .ok (.iload_n 2, 1) := by decide +kernel
theorem dX5_moved_2 : decode cX5_moved 2 = .ok (.iload_n 3, 1) := by decide +kernel
theorem dX5_moved_3 : decode cX5_moved 3 = .ok (.invokestatic 29, 3) := by decide +kernel
theorem dX5_moved_6 : decode cX5_moved 6 = .ok (.iload_n 2, 1) := by decide +kernel
theorem dX5_moved_7 : decode cX5_moved 7 = .ok (.iload 4, 2) := by decide +kernel
theorem dX5_moved_9 : decode cX5_moved 9 = .ok (.invokestatic 29, 3) := by decide +kernel
theorem dX5_moved_12 : decode cX5_moved 12 = .ok (.lreturn, 1) := by decide +kernel
theorem dX5_without_0 : decode cX5_without 0 = .ok (.lload_n 0, 1) := by decide +kernel
theorem dX5_without_1 : decode cX5_without 1 = .ok (.iload_n 3, 1) := by decide +kernel
theorem dX5_without_2 : decode cX5_without 2 = .ok (.i2l, 1) := by decide +kernel
theorem dX5_without_3 : decode cX5_without 3 = .ok (.iload_n 2, 1) := by decide +kernel
theorem dX5_without_4 : decode cX5_without 4 = .ok (.bipush 8, 2) := by decide +kernel
theorem dX5_without_6 : decode cX5_without 6 = .ok (.imul, 1) := by decide +kernel
theorem dX5_without_7 : decode cX5_without 7 = .ok (.lshl, 1) := by decide +kernel
theorem dX5_without_8 : decode cX5_without 8 = .ok (.ldc2_w 33, 3) := by decide +kernel
theorem dX5_without_11 : decode cX5_without 11 = .ok (.lxor, 1) := by decide +kernel
theorem dX5_without_12 : decode cX5_without 12 = .ok (.land, 1) := by decide +kernel
theorem dX5_without_13 : decode cX5_without 13 = .ok (.lreturn, 1) := by decide +kernel
theorem dX5_keptOnceMore_0 : decode cX5_keptOnceMore 0 = .ok (.lload_n 0, 1) := by decide +kernel
theorem dX5_keptOnceMore_1 : decode cX5_keptOnceMore 1 = .ok (.ldc2_w 35, 3) := by decide +kernel
theorem dX5_keptOnceMore_4 : decode cX5_keptOnceMore 4 = .ok (.iload_n 2, 1) := by decide +kernel
theorem dX5_keptOnceMore_5 : decode cX5_keptOnceMore 5 = .ok (.bipush 8, 2) := by decide +kernel
theorem dX5_keptOnceMore_7 : decode cX5_keptOnceMore 7 = .ok (.imul, 1) := by decide +kernel
theorem dX5_keptOnceMore_8 : decode cX5_keptOnceMore 8 = .ok (.lshl, 1) := by decide +kernel
theorem dX5_keptOnceMore_9 : decode cX5_keptOnceMore 9 = .ok (.ladd, 1) := by decide +kernel
theorem dX5_keptOnceMore_10 : decode cX5_keptOnceMore 10 = .ok (.lreturn, 1) := by decide +kernel
theorem dJ6_bitCount_0f7a4_0 : decode cJ6_bitCount_0f7a4 0 = .ok (.iload_n 0, 1) := by decide +kernel
theorem dJ6_bitCount_0f7a4_1 : decode cJ6_bitCount_0f7a4 1 = .ok (.iload_n 0, 1) := by decide +kernel
theorem dJ6_bitCount_0f7a4_2 : decode cJ6_bitCount_0f7a4 2 = .ok (.iconst 1, 1) := by decide +kernel
theorem dJ6_bitCount_0f7a4_3 : decode cJ6_bitCount_0f7a4 3 = .ok (.iushr, 1) := by decide +kernel
theorem dJ6_bitCount_0f7a4_4 : decode cJ6_bitCount_0f7a4 4 = .ok (.ldc_w 265, 3) := by decide +kernel
theorem dJ6_bitCount_0f7a4_7 : decode cJ6_bitCount_0f7a4 7 = .ok (.iand, 1) := by decide +kernel
theorem dJ6_bitCount_0f7a4_8 : decode cJ6_bitCount_0f7a4 8 = .ok (.isub, 1) := by decide +kernel
theorem dJ6_bitCount_0f7a4_9 : decode cJ6_bitCount_0f7a4 9 = .ok (.istore_n 0, 1) := by decide +kernel
theorem dJ6_bitCount_0f7a4_10 : decode cJ6_bitCount_0f7a4 10 = .ok (.iload_n 0, 1) := by decide +kernel
theorem dJ6_bitCount_0f7a4_11 : decode cJ6_bitCount_0f7a4 11 = .ok (.ldc_w 266, 3) := by decide +kernel
theorem dJ6_bitCount_0f7a4_14 : decode cJ6_bitCount_0f7a4 14 = .ok (.iand, 1) := by decide +kernel
theorem dJ6_bitCount_0f7a4_15 : decode cJ6_bitCount_0f7a4 15 = .ok (.iload_n 0, 1) := by decide +kernel
theorem dJ6_bitCount_0f7a4_16 : decode cJ6_bitCount_0f7a4 16 = .ok (.iconst 2, 1) := by decide +kernel
theorem dJ6_bitCount_0f7a4_17 : decode cJ6_bitCount_0f7a4 17 = .ok (.iushr, 1) := by decide +kernel
theorem dJ6_bitCount_0f7a4_18 : decode cJ6_bitCount_0f7a4 18 = .ok (.ldc_w 266, 3) := by decide +kernel
theorem dJ6_bitCount_0f7a4_21 : decode cJ6_bitCount_0f7a4 21 = .ok (.iand, 1) := by decide +kernel
theorem dJ6_bitCount_0f7a4_22 : decode cJ6_bitCount_0f7a4 22 = .ok (.iadd, 1) := by decide +kernel
theorem dJ6_bitCount_0f7a4_23 : decode cJ6_bitCount_0f7a4 23 = .ok (.istore_n 0, 1) := by decide +kernel
theorem dJ6_bitCount_0f7a4_24 : decode cJ6_bitCount_0f7a4 24 = .ok (.iload_n 0, 1) := by decide +kernel
theorem dJ6_bitCount_0f7a4_25 : decode cJ6_bitCount_0f7a4 25 = .ok (.iload_n 0, 1) := by decide +kernel
theorem dJ6_bitCount_0f7a4_26 : decode cJ6_bitCount_0f7a4 26 = .ok (.iconst 4, 1) := by decide +kernel
theorem dJ6_bitCount_0f7a4_27 : decode cJ6_bitCount_0f7a4 27 = .ok (.iushr, 1) := by decide +kernel
theorem dJ6_bitCount_0f7a4_28 : decode cJ6_bitCount_0f7a4 28 = .ok (.iadd, 1) := by decide +kernel
theorem dJ6_bitCount_0f7a4_29 : decode cJ6_bitCount_0f7a4 29 = .ok (.ldc_w 267, 3) := by decide +kernel
theorem dJ6_bitCount_0f7a4_32 : decode cJ6_bitCount_0f7a4 32 = .ok (.iand, 1) := by decide +kernel
theorem dJ6_bitCount_0f7a4_33 : decode cJ6_bitCount_0f7a4 33 = .ok (.istore_n 0, 1) := by decide +kernel
theorem dJ6_bitCount_0f7a4_34 : decode cJ6_bitCount_0f7a4 34 = .ok (.iload_n 0, 1) := by decide +kernel
theorem dJ6_bitCount_0f7a4_35 : decode cJ6_bitCount_0f7a4 35 = .ok (.iload_n 0, 1) := by decide +kernel
theorem dJ6_bitCount_0f7a4_36 : decode cJ6_bitCount_0f7a4 36 = .ok (.bipush 8, 2) := by decide +kernel
theorem dJ6_bitCount_0f7a4_38 : decode cJ6_bitCount_0f7a4 38 = .ok (.iushr, 1) := by decide +kernel
theorem dJ6_bitCount_0f7a4_39 : decode cJ6_bitCount_0f7a4 39 = .ok (.iadd, 1) := by decide +kernel
theorem dJ6_bitCount_0f7a4_40 : decode cJ6_bitCount_0f7a4 40 = .ok (.istore_n 0, 1) := by decide +kernel
theorem dJ6_bitCount_0f7a4_41 : decode cJ6_bitCount_0f7a4 41 = .ok (.iload_n 0, 1) := by decide +kernel
theorem dJ6_bitCount_0f7a4_42 : decode cJ6_bitCount_0f7a4 42 = .ok (.iload_n 0, 1) := by decide +kernel
theorem dJ6_bitCount_0f7a4_43 : decode cJ6_bitCount_0f7a4 43 = .ok (.bipush 16, 2) := by decide +kernel
theorem dJ6_bitCount_0f7a4_45 : decode cJ6_bitCount_0f7a4 45 = .ok (.iushr, 1) := by decide +kernel
theorem dJ6_bitCount_0f7a4_46 : decode cJ6_bitCount_0f7a4 46 = .ok (.iadd, 1) := by decide +kernel
theorem dJ6_bitCount_0f7a4_47 : decode cJ6_bitCount_0f7a4 47 = .ok (.istore_n 0, 1) := by decide +kernel
theorem dJ6_bitCount_0f7a4_48 : decode cJ6_bitCount_0f7a4 48 = .ok (.iload_n 0, 1) := by decide +kernel
theorem dJ6_bitCount_0f7a4_49 : decode cJ6_bitCount_0f7a4 49 = .ok (.bipush 63, 2) := by decide +kernel
theorem dJ6_bitCount_0f7a4_51 : decode cJ6_bitCount_0f7a4 51 = .ok (.iand, 1) := by decide +kernel
theorem dJ6_bitCount_0f7a4_52 : decode cJ6_bitCount_0f7a4 52 = .ok (.ireturn, 1) := by decide +kernel
theorem dJ13_bitCount_95d88_0 : decode cJ13_bitCount_95d88 0 = .ok (.lload_n 0, 1) := by decide +kernel
theorem dJ13_bitCount_95d88_1 : decode cJ13_bitCount_95d88 1 = .ok (.lload_n 0, 1) := by decide +kernel
theorem dJ13_bitCount_95d88_2 : decode cJ13_bitCount_95d88 2 = .ok (.iconst 1, 1) := by decide +kernel
theorem dJ13_bitCount_95d88_3 : decode cJ13_bitCount_95d88 3 = .ok (.lushr, 1) := by decide +kernel
theorem dJ13_bitCount_95d88_4 : decode cJ13_bitCount_95d88 4 = .ok (.ldc2_w 314, 3) := by decide +kernel
theorem dJ13_bitCount_95d88_7 : decode cJ13_bitCount_95d88 7 = .ok (.land, 1) := by decide +kernel
theorem dJ13_bitCount_95d88_8 : decode cJ13_bitCount_95d88 8 = .ok (.lsub, 1) := by decide +kernel
theorem dJ13_bitCount_95d88_9 : decode cJ13_bitCount_95d88 9 = .ok (.lstore_n 0, 1) := by decide +kernel
theorem dJ13_bitCount_95d88_10 : decode cJ13_bitCount_95d88 10 = .ok (.lload_n 0, 1) := by decide +kernel
theorem dJ13_bitCount_95d88_11 : decode cJ13_bitCount_95d88 11 = .ok (.ldc2_w 316, 3) := by decide +kernel
theorem dJ13_bitCount_95d88_14 : decode cJ13_bitCount_95d88 14 = .ok (.land, 1) := by decide +kernel
theorem dJ13_bitCount_95d88_15 : decode cJ13_bitCount_95d88 15 = .ok (.lload_n 0, 1) := by decide +kernel
theorem dJ13_bitCount_95d88_16 : decode cJ13_bitCount_95d88 16 = .ok (.iconst 2, 1) := by decide +kernel
theorem dJ13_bitCount_95d88_17 : decode cJ13_bitCount_95d88 17 = .ok (.lushr, 1) := by decide +kernel
theorem dJ13_bitCount_95d88_18 : decode cJ13_bitCount_95d88 18 = .ok (.ldc2_w 316, 3) := by decide +kernel
theorem dJ13_bitCount_95d88_21 : decode cJ13_bitCount_95d88 21 = .ok (.land, 1) := by decide +kernel
theorem dJ13_bitCount_95d88_22 : decode cJ13_bitCount_95d88 22 = .ok (.ladd, 1) := by decide +kernel
theorem dJ13_bitCount_95d88_23 : decode cJ13_bitCount_95d88 23 = .ok (.lstore_n 0, 1) := by decide +kernel
theorem dJ13_bitCount_95d88_24 : decode cJ13_bitCount_95d88 24 = .ok (.lload_n 0, 1) := by decide +kernel
theorem dJ13_bitCount_95d88_25 : decode cJ13_bitCount_95d88 25 = .ok (.lload_n 0, 1) := by decide +kernel
theorem dJ13_bitCount_95d88_26 : decode cJ13_bitCount_95d88 26 = .ok (.iconst 4, 1) := by decide +kernel
theorem dJ13_bitCount_95d88_27 : decode cJ13_bitCount_95d88 27 = .ok (.lushr, 1) := by decide +kernel
theorem dJ13_bitCount_95d88_28 : decode cJ13_bitCount_95d88 28 = .ok (.ladd, 1) := by decide +kernel
theorem dJ13_bitCount_95d88_29 : decode cJ13_bitCount_95d88 29 = .ok (.ldc2_w 318, 3) := by decide +kernel
theorem dJ13_bitCount_95d88_32 : decode cJ13_bitCount_95d88 32 = .ok (.land, 1) := by decide +kernel
theorem dJ13_bitCount_95d88_33 : decode cJ13_bitCount_95d88 33 = .ok (.lstore_n 0, 1) := by decide +kernel
theorem dJ13_bitCount_95d88_34 : decode cJ13_bitCount_95d88 34 = .ok (.lload_n 0, 1) := by decide +kernel
theorem dJ13_bitCount_95d88_35 : decode cJ13_bitCount_95d88 35 = .ok (.lload_n 0, 1) := by decide +kernel
theorem dJ13_bitCount_95d88_36 : decode cJ13_bitCount_95d88 36 = .ok (.bipush 8, 2) := by decide +kernel
theorem dJ13_bitCount_95d88_38 : decode cJ13_bitCount_95d88 38 = .ok (.lushr, 1) := by decide +kernel
theorem dJ13_bitCount_95d88_39 : decode cJ13_bitCount_95d88 39 = .ok (.ladd, 1) := by decide +kernel
theorem dJ13_bitCount_95d88_40 : decode cJ13_bitCount_95d88 40 = .ok (.lstore_n 0, 1) := by decide +kernel
theorem dJ13_bitCount_95d88_41 : decode cJ13_bitCount_95d88 41 = .ok (.lload_n 0, 1) := by decide +kernel
theorem dJ13_bitCount_95d88_42 : decode cJ13_bitCount_95d88 42 = .ok (.lload_n 0, 1) := by decide +kernel
theorem dJ13_bitCount_95d88_43 : decode cJ13_bitCount_95d88 43 = .ok (.bipush 16, 2) := by decide +kernel
theorem dJ13_bitCount_95d88_45 : decode cJ13_bitCount_95d88 45 = .ok (.lushr, 1) := by decide +kernel
theorem dJ13_bitCount_95d88_46 : decode cJ13_bitCount_95d88 46 = .ok (.ladd, 1) := by decide +kernel
theorem dJ13_bitCount_95d88_47 : decode cJ13_bitCount_95d88 47 = .ok (.lstore_n 0, 1) := by decide +kernel
theorem dJ13_bitCount_95d88_48 : decode cJ13_bitCount_95d88 48 = .ok (.lload_n 0, 1) := by decide +kernel
theorem dJ13_bitCount_95d88_49 : decode cJ13_bitCount_95d88 49 = .ok (.lload_n 0, 1) := by decide +kernel
theorem dJ13_bitCount_95d88_50 : decode cJ13_bitCount_95d88 50 = .ok (.bipush 32, 2) := by decide +kernel
theorem dJ13_bitCount_95d88_52 : decode cJ13_bitCount_95d88 52 = .ok (.lushr, 1) := by decide +kernel
theorem dJ13_bitCount_95d88_53 : decode cJ13_bitCount_95d88 53 = .ok (.ladd, 1) := by decide +kernel
theorem dJ13_bitCount_95d88_54 : decode cJ13_bitCount_95d88 54 = .ok (.lstore_n 0, 1) := by decide +kernel
theorem dJ13_bitCount_95d88_55 : decode cJ13_bitCount_95d88 55 = .ok (.lload_n 0, 1) := by decide +kernel
theorem dJ13_bitCount_95d88_56 : decode cJ13_bitCount_95d88 56 = .ok (.l2i, 1) := by decide +kernel
theorem dJ13_bitCount_95d88_57 : decode cJ13_bitCount_95d88 57 = .ok (.bipush 127, 2) := by decide +kernel
theorem dJ13_bitCount_95d88_59 : decode cJ13_bitCount_95d88 59 = .ok (.iand, 1) := by decide +kernel
theorem dJ13_bitCount_95d88_60 : decode cJ13_bitCount_95d88 60 = .ok (.ireturn, 1) := by decide +kernel
theorem dJ9_max_7cf53_0 : decode cJ9_max_7cf53 0 = .ok (.iload_n 0, 1) := by decide +kernel
theorem dJ9_max_7cf53_1 : decode cJ9_max_7cf53 1 = .ok (.iload_n 1, 1) := by decide +kernel
theorem dJ9_max_7cf53_2 : decode cJ9_max_7cf53 2 = .ok (.if_icmp .lt 7, 3) := by decide +kernel
theorem dJ9_max_7cf53_5 : decode cJ9_max_7cf53 5 = .ok (.iload_n 0, 1) := by decide +kernel
theorem dJ9_max_7cf53_6 : decode cJ9_max_7cf53 6 = .ok (.goto 4, 3) := by decide +kernel
theorem dJ9_max_7cf53_9 : decode cJ9_max_7cf53 9 = .ok (.iload_n 1, 1) := by decide +kernel
theorem dJ9_max_7cf53_10 : decode cJ9_max_7cf53 10 = .ok (.ireturn, 1) := by decide +kernel
end
section
theorem dX6_init_0 : decode cX6_init 0 = .ok (.aload_n 0, 1) := by decide +kernel
theorem dX6_init_1 : decode cX6_init 1 = .ok (.invokespecial 1, 3) := by decide +kernel
theorem dX6_init_4 : decode cX6_init 4 = .ok (.aload_n 0, 1) := by decide +kernel
theorem dX6_init_5 : decode cX6_init 5 = .ok (.new 7, 3) := by decide +kernel
theorem dX6_init_8 : decode cX6_init 8 = .ok (.dup, 1) := by decide +kernel
theorem dX6_init_9 : decode cX6_init 9 = .ok (.invokespecial 9, 3) := by decide +kernel
theorem dX6_init_12 : decode cX6_init 12 = .ok (.putfield 10, 3) := by decide +kernel
theorem dX6_init_15 : decode cX6_init 15 = .ok (.aload_n 0, 1) := by decide +kernel
theorem dX6_init_16 : decode cX6_init 16 = .ok (.new 16, 3) := by decide +kernel
theorem dX6_init_19 : decode cX6_init 19 = .ok (.dup, 1) := by decide +kernel
theorem dX6_init_20 : decode cX6_init 20 = .ok (.invokespecial 18, 3) := by decide +kernel
theorem dX6_init_23 : decode cX6_init 23 = .ok (.putfield 19, 3) := by decide +kernel
theorem dX6_init_26 : decode cX6_init 26 = .ok (.aload_n 0, 1) := by decide +kernel
theorem dX6_init_27 : decode cX6_init 27 = .ok (.new 23, 3) := by decide +kernel
theorem dX6_init_30 : decode cX6_init 30 = .ok (.dup, 1) := by decide +kernel
theorem dX6_init_31 : decode cX6_init 31 = .ok (.aload_n 0, 1) := by decide +kernel
theorem dX6_init_32 : decode cX6_init 32 = .ok (.getfield 19, 3) := by decide +kernel
theorem dX6_init_35 : decode cX6_init 35 = .ok (.invokespecial 25, 3) := by decide +kernel
theorem dX6_init_38 : decode cX6_init 38 = .ok (.putfield 28, 3) := by decide +kernel
theorem dX6_init_41 : decode cX6_init 41 = .ok (.aload_n 0, 1) := by decide +kernel
theorem dX6_init_42 : decode cX6_init 42 = .ok (.new 23, 3) := by decide +kernel
theorem dX6_init_45 : decode cX6_init 45 = .ok (.dup, 1) := by decide +kernel
theorem dX6_init_46 : decode cX6_init 46 = .ok (.aload_n 0, 1) := by decide +kernel
theorem dX6_init_47 : decode cX6_init 47 = .ok (.getfield 19, 3) := by decide +kernel
theorem dX6_init_50 : decode cX6_init 50 = .ok (.invokespecial 25, 3) := by decide +kernel
theorem dX6_init_53 : decode cX6_init 53 = .ok (.putfield 32, 3) := by decide +kernel
theorem dX6_init_56 : decode cX6_init 56 = .ok (.aload_n 0, 1) := by decide +kernel
theorem dX6_init_57 : decode cX6_init 57 = .ok (.new 35, 3) := by decide +kernel
theorem dX6_init_60 : decode cX6_init 60 = .ok (.dup, 1) := by decide +kernel
theorem dX6_init_61 : decode cX6_init 61 = .ok (.aload_n 0, 1) := by decide +kernel
theorem dX6_init_62 : decode cX6_init 62 = .ok (.getfield 19, 3) := by decide +kernel
theorem dX6_init_65 : decode cX6_init 65 = .ok (.aload_n 0, 1) := by decide +kernel
theorem dX6_init_66 : decode cX6_init 66 = .ok (.getfield 28, 3) := by decide +kernel
theorem dX6_init_69 : decode cX6_init 69 = .ok (.invokespecial 37, 3) := by decide +kernel
theorem dX6_init_72 : decode cX6_init 72 = .ok (.putfield 40, 3) := by decide +kernel
theorem dX6_init_75 : decode cX6_init 75 = .ok (.return_, 1) := by decide +kernel
theorem dX6_letter_0 : decode cX6_letter 0 = .ok (.iload_n 1, 1) := by decide +kernel
theorem dX6_letter_1 : decode cX6_letter 1 = .ok (.iconst 1, 1) := by decide +kernel
theorem dX6_letter_2 : decode cX6_letter 2 = .ok (.if_icmp .lt 9, 3) := by decide +kernel
theorem dX6_letter_5 : decode cX6_letter 5 = .ok (.iload_n 1, 1) := by decide +kernel
theorem dX6_letter_6 : decode cX6_letter 6 = .ok (.bipush 126, 2) := by decide +kernel
theorem dX6_letter_8 : decode cX6_letter 8 = .ok (.if_icmp .le 6, 3) := by decide +kernel
theorem dX6_letter_11 : decode cX6_letter 11 = .ok (.bipush (-102), 2) := by decide +kernel
theorem dX6_letter_13 : decode cX6_letter 13 = .ok (.ireturn, 1) := by decide +kernel
theorem dX6_letter_14 : decode cX6_letter 14 = .ok (.aload_n 0, 1) := by decide +kernel
theorem dX6_letter_15 : decode cX6_letter 15 = .ok (.getfield 10, 3) := by decide +kernel
theorem dX6_letter_18 : decode cX6_letter 18 = .ok (.invokevirtual 44, 3) := by decide +kernel
theorem dX6_letter_21 : decode cX6_letter 21 = .ok (.ifCond .eq 6, 3) := by decide +kernel
theorem dX6_letter_24 : decode cX6_letter 24 = .ok (.bipush (-104), 2) := by decide +kernel
theorem dX6_letter_26 : decode cX6_letter 26 = .ok (.ireturn, 1) := by decide +kernel
theorem dX6_letter_27 : decode cX6_letter 27 = .ok (.aload_n 0, 1) := by decide +kernel
theorem dX6_letter_28 : decode cX6_letter 28 = .ok (.getfield 10, 3) := by decide +kernel
theorem dX6_letter_31 : decode cX6_letter 31 = .ok (.iload_n 1, 1) := by decide +kernel
theorem dX6_letter_32 : decode cX6_letter 32 = .ok (.invokevirtual 48, 3) := by decide +kernel
theorem dX6_letter_35 : decode cX6_letter 35 = .ok (.ireturn, 1) := by decide +kernel
theorem dX6_blank_0 : decode cX6_blank 0 = .ok (.aload_n 0, 1) := by decide +kernel
theorem dX6_blank_1 : decode cX6_blank 1 = .ok (.getfield 10, 3) := by decide +kernel
theorem dX6_blank_4 : decode cX6_blank 4 = .ok (.invokevirtual 52, 3) := by decide +kernel
theorem dX6_blank_7 : decode cX6_blank 7 = .ok (.ireturn, 1) := by decide +kernel
theorem dX6_fault_0 : decode cX6_fault 0 = .ok (.aload_n 0, 1) := by decide +kernel
theorem dX6_fault_1 : decode cX6_fault 1 = .ok (.getfield 10, 3) := by decide +kernel
theorem dX6_fault_4 : decode cX6_fault 4 = .ok (.invokevirtual 56, 3) := by decide +kernel
theorem dX6_fault_7 : decode cX6_fault 7 = .ok (.ireturn, 1) := by decide +kernel
theorem dX6_law_0 : decode cX6_law 0 = .ok (.aload_n 0, 1) := by decide +kernel
theorem dX6_law_1 : decode cX6_law 1 = .ok (.getfield 10, 3) := by decide +kernel
theorem dX6_law_4 : decode cX6_law 4 = .ok (.invokevirtual 59, 3) := by decide +kernel
theorem dX6_law_7 : decode cX6_law 7 = .ok (.ifCond .ne 6, 3) := by decide +kernel
theorem dX6_law_10 : decode cX6_law 10 = .ok (.bipush (-103), 2) := by decide +kernel
theorem dX6_law_12 : decode cX6_law 12 = .ok (.ireturn, 1) := by decide +kernel
theorem dX6_law_13 : decode cX6_law 13 = .ok (.aload_n 0, 1) := by decide +kernel
theorem dX6_law_14 : decode cX6_law 14 = .ok (.getfield 19, 3) := by decide +kernel
theorem dX6_law_17 : decode cX6_law 17 = .ok (.aload_n 0, 1) := by decide +kernel
theorem dX6_law_18 : decode cX6_law 18 = .ok (.getfield 10, 3) := by decide +kernel
theorem dX6_law_21 : decode cX6_law 21 = .ok (.invokevirtual 62, 3) := by decide +kernel
theorem dX6_law_24 : decode cX6_law 24 = .ok (.aload_n 0, 1) := by decide +kernel
theorem dX6_law_25 : decode cX6_law 25 = .ok (.getfield 10, 3) := by decide +kernel
theorem dX6_law_28 : decode cX6_law 28 = .ok (.invokevirtual 52, 3) := by decide +kernel
theorem dX6_law_31 : decode cX6_law 31 = .ok (.pop, 1) := by decide +kernel
theorem dX6_law_32 : decode cX6_law 32 = .ok (.aload_n 0, 1) := by decide +kernel
theorem dX6_law_33 : decode cX6_law 33 = .ok (.getfield 28, 3) := by decide +kernel
theorem dX6_law_36 : decode cX6_law 36 = .ok (.invokevirtual 66, 3) := by decide +kernel
theorem dX6_law_39 : decode cX6_law 39 = .ok (.aload_n 0, 1) := by decide +kernel
theorem dX6_law_40 : decode cX6_law 40 = .ok (.iconst 0, 1) := by decide +kernel
theorem dX6_law_41 : decode cX6_law 41 = .ok (.putfield 68, 3) := by decide +kernel
theorem dX6_law_44 : decode cX6_law 44 = .ok (.aload_n 0, 1) := by decide +kernel
theorem dX6_law_45 : decode cX6_law 45 = .ok (.dup, 1) := by decide +kernel
theorem dX6_law_46 : decode cX6_law 46 = .ok (.getfield 72, 3) := by decide +kernel
theorem dX6_law_49 : decode cX6_law 49 = .ok (.iconst 1, 1) := by decide +kernel
theorem dX6_law_50 : decode cX6_law 50 = .ok (.iadd, 1) := by decide +kernel
theorem dX6_law_51 : decode cX6_law 51 = .ok (.putfield 72, 3) := by decide +kernel
theorem dX6_law_54 : decode cX6_law 54 = .ok (.aload_n 0, 1) := by decide +kernel
theorem dX6_law_55 : decode cX6_law 55 = .ok (.getfield 19, 3) := by decide +kernel
theorem dX6_law_58 : decode cX6_law 58 = .ok (.getfield 76, 3) := by decide +kernel
theorem dX6_law_61 : decode cX6_law 61 = .ok (.ireturn, 1) := by decide +kernel
theorem dX6_under_0 : decode cX6_under 0 = .ok (.iload_n 1, 1) := by decide +kernel
theorem dX6_under_1 : decode cX6_under 1 = .ok (.invokestatic 79, 3) := by decide +kernel
theorem dX6_under_4 : decode cX6_under 4 = .ok (.ifCond .ne 6, 3) := by decide +kernel
theorem dX6_under_7 : decode cX6_under 7 = .ok (.bipush (-101), 2) := by decide +kernel
theorem dX6_under_9 : decode cX6_under 9 = .ok (.ireturn, 1) := by decide +kernel
theorem dX6_under_10 : decode cX6_under 10 = .ok (.iload_n 2, 1) := by decide +kernel
theorem dX6_under_11 : decode cX6_under 11 = .ok (.iconst 0, 1) := by decide +kernel
theorem dX6_under_12 : decode cX6_under 12 = .ok (.iconst 1, 1) := by decide +kernel
theorem dX6_under_13 : decode cX6_under 13 = .ok (.invokestatic 83, 3) := by decide +kernel
theorem dX6_under_16 : decode cX6_under 16 = .ok (.ifCond .ne 6, 3) := by decide +kernel
theorem dX6_under_19 : decode cX6_under 19 = .ok (.bipush (-102), 2) := by decide +kernel
theorem dX6_under_21 : decode cX6_under 21 = .ok (.ireturn, 1) := by decide +kernel
theorem dX6_under_22 : decode cX6_under 22 = .ok (.iload_n 2, 1) := by decide +kernel
theorem dX6_under_23 : decode cX6_under 23 = .ok (.ifCond .ne 14, 3) := by decide +kernel
theorem dX6_under_26 : decode cX6_under 26 = .ok (.aload_n 0, 1) := by decide +kernel
theorem dX6_under_27 : decode cX6_under 27 = .ok (.getfield 19, 3) := by decide +kernel
theorem dX6_under_30 : decode cX6_under 30 = .ok (.iload_n 1, 1) := by decide +kernel
theorem dX6_under_31 : decode cX6_under 31 = .ok (.invokevirtual 87, 3) := by decide +kernel
theorem dX6_under_34 : decode cX6_under 34 = .ok (.goto 14, 3) := by decide +kernel
theorem dX6_under_37 : decode cX6_under 37 = .ok (.aload_n 0, 1) := by decide +kernel
theorem dX6_under_38 : decode cX6_under 38 = .ok (.getfield 28, 3) := by decide +kernel
theorem dX6_under_41 : decode cX6_under 41 = .ok (.getfield 90, 3) := by decide +kernel
theorem dX6_under_44 : decode cX6_under 44 = .ok (.iload_n 1, 1) := by decide +kernel
theorem dX6_under_45 : decode cX6_under 45 = .ok (.invokestatic 94, 3) := by decide +kernel
theorem dX6_under_48 : decode cX6_under 48 = .ok (.ireturn, 1) := by decide +kernel
theorem dX6_file_0 : decode cX6_file 0 = .ok (.iload_n 1, 1) := by decide +kernel
theorem dX6_file_1 : decode cX6_file 1 = .ok (.invokestatic 100, 3) := by decide +kernel
theorem dX6_file_4 : decode cX6_file 4 = .ok (.ifCond .ne 6, 3) := by decide +kernel
theorem dX6_file_7 : decode cX6_file 7 = .ok (.bipush (-102), 2) := by decide +kernel
theorem dX6_file_9 : decode cX6_file 9 = .ok (.ireturn, 1) := by decide +kernel
theorem dX6_file_10 : decode cX6_file 10 = .ok (.iload_n 2, 1) := by decide +kernel
theorem dX6_file_11 : decode cX6_file 11 = .ok (.invokestatic 79, 3) := by decide +kernel
theorem dX6_file_14 : decode cX6_file 14 = .ok (.ifCond .ne 6, 3) := by decide +kernel
theorem dX6_file_17 : decode cX6_file 17 = .ok (.bipush (-101), 2) := by decide +kernel
theorem dX6_file_19 : decode cX6_file 19 = .ok (.ireturn, 1) := by decide +kernel
theorem dX6_file_20 : decode cX6_file 20 = .ok (.aload_n 0, 1) := by decide +kernel
theorem dX6_file_21 : decode cX6_file 21 = .ok (.getfield 19, 3) := by decide +kernel
theorem dX6_file_24 : decode cX6_file 24 = .ok (.invokevirtual 105, 3) := by decide +kernel
theorem dX6_file_27 : decode cX6_file 27 = .ok (.ifCond .eq 21, 3) := by decide +kernel
theorem dX6_file_30 : decode cX6_file 30 = .ok (.aload_n 0, 1) := by decide +kernel
theorem dX6_file_31 : decode cX6_file 31 = .ok (.getfield 28, 3) := by decide +kernel
theorem dX6_file_34 : decode cX6_file 34 = .ok (.aload_n 0, 1) := by decide +kernel
theorem dX6_file_35 : decode cX6_file 35 = .ok (.getfield 28, 3) := by decide +kernel
theorem dX6_file_38 : decode cX6_file 38 = .ok (.getfield 90, 3) := by decide +kernel
theorem dX6_file_41 : decode cX6_file 41 = .ok (.iload_n 2, 1) := by decide +kernel
theorem dX6_file_42 : decode cX6_file 42 = .ok (.invokevirtual 108, 3) := by decide +kernel
theorem dX6_file_45 : decode cX6_file 45 = .ok (.ifCond .ne 6, 3) := by decide +kernel
theorem dX6_file_48 : decode cX6_file 48 = .ok (.bipush (-103), 2) := by decide +kernel
theorem dX6_file_50 : decode cX6_file 50 = .ok (.ireturn, 1) := by decide +kernel
theorem dX6_file_51 : decode cX6_file 51 = .ok (.aload_n 0, 1) := by decide +kernel
theorem dX6_file_52 : decode cX6_file 52 = .ok (.getfield 28, 3) := by decide +kernel
theorem dX6_file_55 : decode cX6_file 55 = .ok (.getfield 112, 3) := by decide +kernel
theorem dX6_file_58 : decode cX6_file 58 = .ok (.iconst 5, 1) := by decide +kernel
theorem dX6_file_59 : decode cX6_file 59 = .ok (.if_icmp .lt 6, 3) := by decide +kernel
theorem dX6_file_62 : decode cX6_file 62 = .ok (.bipush (-104), 2) := by decide +kernel
theorem dX6_file_64 : decode cX6_file 64 = .ok (.ireturn, 1) := by decide +kernel
theorem dX6_file_65 : decode cX6_file 65 = .ok (.aload_n 0, 1) := by decide +kernel
theorem dX6_file_66 : decode cX6_file 66 = .ok (.getfield 28, 3) := by decide +kernel
theorem dX6_file_69 : decode cX6_file 69 = .ok (.iload_n 1, 1) := by decide +kernel
theorem dX6_file_70 : decode cX6_file 70 = .ok (.iload_n 2, 1) := by decide +kernel
theorem dX6_file_71 : decode cX6_file 71 = .ok (.invokevirtual 115, 3) := by decide +kernel
theorem dX6_file_74 : decode cX6_file 74 = .ok (.ireturn, 1) := by decide +kernel
theorem dX6_about_0 : decode cX6_about 0 = .ok (.aload_n 0, 1) := by decide +kernel
theorem dX6_about_1 : decode cX6_about 1 = .ok (.getfield 28, 3) := by decide +kernel
theorem dX6_about_4 : decode cX6_about 4 = .ok (.iload_n 1, 1) := by decide +kernel
theorem dX6_about_5 : decode cX6_about 5 = .ok (.invokevirtual 119, 3) := by decide +kernel
theorem dX6_about_8 : decode cX6_about 8 = .ok (.ifCond .ne 6, 3) := by decide +kernel
theorem dX6_about_11 : decode cX6_about 11 = .ok (.bipush (-101), 2) := by decide +kernel
theorem dX6_about_13 : decode cX6_about 13 = .ok (.ireturn, 1) := by decide +kernel
theorem dX6_about_14 : decode cX6_about 14 = .ok (.iload_n 2, 1) := by decide +kernel
theorem dX6_about_15 : decode cX6_about 15 = .ok (.tableswitch 111 0 5 #[37, 46, 58, 67, 79, 99], 37) := by decide +kernel
theorem dX6_about_52 : decode cX6_about 52 = .ok (.aload_n 0, 1) := by decide +kernel
theorem dX6_about_53 : decode cX6_about 53 = .ok (.getfield 28, 3) := by decide +kernel
theorem dX6_about_56 : decode cX6_about 56 = .ok (.iload_n 1, 1) := by decide +kernel
theorem dX6_about_57 : decode cX6_about 57 = .ok (.invokevirtual 122, 3) := by decide +kernel
theorem dX6_about_60 : decode cX6_about 60 = .ok (.ireturn, 1) := by decide +kernel
theorem dX6_about_61 : decode cX6_about 61 = .ok (.aload_n 0, 1) := by decide +kernel
theorem dX6_about_62 : decode cX6_about 62 = .ok (.getfield 28, 3) := by decide +kernel
theorem dX6_about_65 : decode cX6_about 65 = .ok (.getfield 90, 3) := by decide +kernel
theorem dX6_about_68 : decode cX6_about 68 = .ok (.iload_n 1, 1) := by decide +kernel
theorem dX6_about_69 : decode cX6_about 69 = .ok (.invokestatic 125, 3) := by decide +kernel
theorem dX6_about_72 : decode cX6_about 72 = .ok (.ireturn, 1) := by decide +kernel
theorem dX6_about_73 : decode cX6_about 73 = .ok (.aload_n 0, 1) := by decide +kernel
theorem dX6_about_74 : decode cX6_about 74 = .ok (.getfield 28, 3) := by decide +kernel
theorem dX6_about_77 : decode cX6_about 77 = .ok (.iload_n 1, 1) := by decide +kernel
theorem dX6_about_78 : decode cX6_about 78 = .ok (.invokevirtual 128, 3) := by decide +kernel
theorem dX6_about_81 : decode cX6_about 81 = .ok (.ireturn, 1) := by decide +kernel
theorem dX6_about_82 : decode cX6_about 82 = .ok (.aload_n 0, 1) := by decide +kernel
theorem dX6_about_83 : decode cX6_about 83 = .ok (.getfield 28, 3) := by decide +kernel
theorem dX6_about_86 : decode cX6_about 86 = .ok (.getfield 90, 3) := by decide +kernel
theorem dX6_about_89 : decode cX6_about 89 = .ok (.iload_n 1, 1) := by decide +kernel
theorem dX6_about_90 : decode cX6_about 90 = .ok (.invokestatic 131, 3) := by decide +kernel
theorem dX6_about_93 : decode cX6_about 93 = .ok (.ireturn, 1) := by decide +kernel
theorem dX6_about_94 : decode cX6_about 94 = .ok (.aload_n 0, 1) := by decide +kernel
theorem dX6_about_95 : decode cX6_about 95 = .ok (.getfield 28, 3) := by decide +kernel
theorem dX6_about_98 : decode cX6_about 98 = .ok (.getfield 90, 3) := by decide +kernel
theorem dX6_about_101 : decode cX6_about 101 = .ok (.iload_n 1, 1) := by decide +kernel
theorem dX6_about_102 : decode cX6_about 102 = .ok (.invokestatic 134, 3) := by decide +kernel
theorem dX6_about_105 : decode cX6_about 105 = .ok (.ifCond .eq 7, 3) := by decide +kernel
theorem dX6_about_108 : decode cX6_about 108 = .ok (.iconst 1, 1) := by decide +kernel
theorem dX6_about_109 : decode cX6_about 109 = .ok (.goto 4, 3) := by decide +kernel
theorem dX6_about_112 : decode cX6_about 112 = .ok (.iconst 0, 1) := by decide +kernel
theorem dX6_about_113 : decode cX6_about 113 = .ok (.ireturn, 1) := by decide +kernel
theorem dX6_about_114 : decode cX6_about 114 = .ok (.aload_n 0, 1) := by decide +kernel
theorem dX6_about_115 : decode cX6_about 115 = .ok (.getfield 28, 3) := by decide +kernel
theorem dX6_about_118 : decode cX6_about 118 = .ok (.iload_n 1, 1) := by decide +kernel
theorem dX6_about_119 : decode cX6_about 119 = .ok (.invokevirtual 122, 3) := by decide +kernel
theorem dX6_about_122 : decode cX6_about 122 = .ok (.invokestatic 137, 3) := by decide +kernel
theorem dX6_about_125 : decode cX6_about 125 = .ok (.ireturn, 1) := by decide +kernel
theorem dX6_about_126 : decode cX6_about 126 = .ok (.bipush (-102), 2) := by decide +kernel
theorem dX6_about_128 : decode cX6_about 128 = .ok (.ireturn, 1) := by decide +kernel
theorem dX6_as_0 : decode cX6_as 0 = .ok (.aload_n 0, 1) := by decide +kernel
theorem dX6_as_1 : decode cX6_as 1 = .ok (.getfield 28, 3) := by decide +kernel
theorem dX6_as_4 : decode cX6_as 4 = .ok (.iload_n 1, 1) := by decide +kernel
theorem dX6_as_5 : decode cX6_as 5 = .ok (.invokevirtual 119, 3) := by decide +kernel
theorem dX6_as_8 : decode cX6_as 8 = .ok (.ifCond .ne 6, 3) := by decide +kernel
theorem dX6_as_11 : decode cX6_as 11 = .ok (.bipush (-101), 2) := by decide +kernel
theorem dX6_as_13 : decode cX6_as 13 = .ok (.ireturn, 1) := by decide +kernel
theorem dX6_as_14 : decode cX6_as 14 = .ok (.iload_n 2, 1) := by decide +kernel
theorem dX6_as_15 : decode cX6_as 15 = .ok (.invokestatic 100, 3) := by decide +kernel
theorem dX6_as_18 : decode cX6_as 18 = .ok (.ifCond .ne 6, 3) := by decide +kernel
theorem dX6_as_21 : decode cX6_as 21 = .ok (.bipush (-102), 2) := by decide +kernel
theorem dX6_as_23 : decode cX6_as 23 = .ok (.ireturn, 1) := by decide +kernel
theorem dX6_as_24 : decode cX6_as 24 = .ok (.aload_n 0, 1) := by decide +kernel
theorem dX6_as_25 : decode cX6_as 25 = .ok (.getfield 28, 3) := by decide +kernel
theorem dX6_as_28 : decode cX6_as 28 = .ok (.iload_n 1, 1) := by decide +kernel
theorem dX6_as_29 : decode cX6_as 29 = .ok (.invokevirtual 122, 3) := by decide +kernel
theorem dX6_as_32 : decode cX6_as 32 = .ok (.iload_n 2, 1) := by decide +kernel
theorem dX6_as_33 : decode cX6_as 33 = .ok (.invokestatic 140, 3) := by decide +kernel
theorem dX6_as_36 : decode cX6_as 36 = .ok (.ifCond .eq 7, 3) := by decide +kernel
theorem dX6_as_39 : decode cX6_as 39 = .ok (.iload_n 1, 1) := by decide +kernel
theorem dX6_as_40 : decode cX6_as 40 = .ok (.goto 4, 3) := by decide +kernel
theorem dX6_as_43 : decode cX6_as 43 = .ok (.iconst (-1), 1) := by decide +kernel
theorem dX6_as_44 : decode cX6_as 44 = .ok (.ireturn, 1) := by decide +kernel
theorem dX6_copy_0 : decode cX6_copy 0 = .ok (.aload_n 0, 1) := by decide +kernel
theorem dX6_copy_1 : decode cX6_copy 1 = .ok (.getfield 28, 3) := by decide +kernel
theorem dX6_copy_4 : decode cX6_copy 4 = .ok (.iload_n 1, 1) := by decide +kernel
theorem dX6_copy_5 : decode cX6_copy 5 = .ok (.invokevirtual 119, 3) := by decide +kernel
theorem dX6_copy_8 : decode cX6_copy 8 = .ok (.ifCond .eq 10, 3) := by decide +kernel
theorem dX6_copy_11 : decode cX6_copy 11 = .ok (.iload_n 2, 1) := by decide +kernel
theorem dX6_copy_12 : decode cX6_copy 12 = .ok (.invokestatic 79, 3) := by decide +kernel
theorem dX6_copy_15 : decode cX6_copy 15 = .ok (.ifCond .ne 6, 3) := by decide +kernel
theorem dX6_copy_18 : decode cX6_copy 18 = .ok (.bipush (-101), 2) := by decide +kernel
theorem dX6_copy_20 : decode cX6_copy 20 = .ok (.ireturn, 1) := by decide +kernel
theorem dX6_copy_21 : decode cX6_copy 21 = .ok (.aload_n 0, 1) := by decide +kernel
theorem dX6_copy_22 : decode cX6_copy 22 = .ok (.getfield 28, 3) := by decide +kernel
theorem dX6_copy_25 : decode cX6_copy 25 = .ok (.aload_n 0, 1) := by decide +kernel
theorem dX6_copy_26 : decode cX6_copy 26 = .ok (.getfield 28, 3) := by decide +kernel
theorem dX6_copy_29 : decode cX6_copy 29 = .ok (.getfield 90, 3) := by decide +kernel
theorem dX6_copy_32 : decode cX6_copy 32 = .ok (.iload_n 1, 1) := by decide +kernel
theorem dX6_copy_33 : decode cX6_copy 33 = .ok (.iload_n 2, 1) := by decide +kernel
theorem dX6_copy_34 : decode cX6_copy 34 = .ok (.invokevirtual 144, 3) := by decide +kernel
theorem dX6_copy_37 : decode cX6_copy 37 = .ok (.ifCond .ne 6, 3) := by decide +kernel
theorem dX6_copy_40 : decode cX6_copy 40 = .ok (.bipush (-103), 2) := by decide +kernel
theorem dX6_copy_42 : decode cX6_copy 42 = .ok (.ireturn, 1) := by decide +kernel
theorem dX6_copy_43 : decode cX6_copy 43 = .ok (.aload_n 0, 1) := by decide +kernel
theorem dX6_copy_44 : decode cX6_copy 44 = .ok (.getfield 28, 3) := by decide +kernel
theorem dX6_copy_47 : decode cX6_copy 47 = .ok (.aload_n 0, 1) := by decide +kernel
theorem dX6_copy_48 : decode cX6_copy 48 = .ok (.getfield 28, 3) := by decide +kernel
theorem dX6_copy_51 : decode cX6_copy 51 = .ok (.getfield 90, 3) := by decide +kernel
theorem dX6_copy_54 : decode cX6_copy 54 = .ok (.iload_n 1, 1) := by decide +kernel
theorem dX6_copy_55 : decode cX6_copy 55 = .ok (.iload_n 2, 1) := by decide +kernel
theorem dX6_copy_56 : decode cX6_copy 56 = .ok (.invokestatic 148, 3) := by decide +kernel
theorem dX6_copy_59 : decode cX6_copy 59 = .ok (.putfield 90, 3) := by decide +kernel
theorem dX6_copy_62 : decode cX6_copy 62 = .ok (.aload_n 0, 1) := by decide +kernel
theorem dX6_copy_63 : decode cX6_copy 63 = .ok (.getfield 28, 3) := by decide +kernel
theorem dX6_copy_66 : decode cX6_copy 66 = .ok (.getfield 90, 3) := by decide +kernel
theorem dX6_copy_69 : decode cX6_copy 69 = .ok (.iload_n 1, 1) := by decide +kernel
theorem dX6_copy_70 : decode cX6_copy 70 = .ok (.invokestatic 125, 3) := by decide +kernel
theorem dX6_copy_73 : decode cX6_copy 73 = .ok (.invokestatic 152, 3) := by decide +kernel
theorem dX6_copy_76 : decode cX6_copy 76 = .ok (.ireturn, 1) := by decide +kernel
theorem dX6_rename_0 : decode cX6_rename 0 = .ok (.aload_n 0, 1) := by decide +kernel
theorem dX6_rename_1 : decode cX6_rename 1 = .ok (.getfield 28, 3) := by decide +kernel
theorem dX6_rename_4 : decode cX6_rename 4 = .ok (.iload_n 1, 1) := by decide +kernel
theorem dX6_rename_5 : decode cX6_rename 5 = .ok (.invokevirtual 119, 3) := by decide +kernel
theorem dX6_rename_8 : decode cX6_rename 8 = .ok (.ifCond .eq 22, 3) := by decide +kernel
theorem dX6_rename_11 : decode cX6_rename 11 = .ok (.iload_n 2, 1) := by decide +kernel
theorem dX6_rename_12 : decode cX6_rename 12 = .ok (.invokestatic 79, 3) := by decide +kernel
theorem dX6_rename_15 : decode cX6_rename 15 = .ok (.ifCond .eq 15, 3) := by decide +kernel
theorem dX6_rename_18 : decode cX6_rename 18 = .ok (.iload_n 3, 1) := by decide +kernel
theorem dX6_rename_19 : decode cX6_rename 19 = .ok (.invokestatic 79, 3) := by decide +kernel
theorem dX6_rename_22 : decode cX6_rename 22 = .ok (.ifCond .eq 8, 3) := by decide +kernel
theorem dX6_rename_25 : decode cX6_rename 25 = .ok (.iload_n 2, 1) := by decide +kernel
theorem dX6_rename_26 : decode cX6_rename 26 = .ok (.iload_n 3, 1) := by decide +kernel
theorem dX6_rename_27 : decode cX6_rename 27 = .ok (.if_icmp .ne 6, 3) := by decide +kernel
theorem dX6_rename_30 : decode cX6_rename 30 = .ok (.bipush (-101), 2) := by decide +kernel
theorem dX6_rename_32 : decode cX6_rename 32 = .ok (.ireturn, 1) := by decide +kernel
theorem dX6_rename_33 : decode cX6_rename 33 = .ok (.aload_n 0, 1) := by decide +kernel
theorem dX6_rename_34 : decode cX6_rename 34 = .ok (.getfield 28, 3) := by decide +kernel
theorem dX6_rename_37 : decode cX6_rename 37 = .ok (.aload_n 0, 1) := by decide +kernel
theorem dX6_rename_38 : decode cX6_rename 38 = .ok (.getfield 28, 3) := by decide +kernel
theorem dX6_rename_41 : decode cX6_rename 41 = .ok (.getfield 90, 3) := by decide +kernel
theorem dX6_rename_44 : decode cX6_rename 44 = .ok (.iload_n 1, 1) := by decide +kernel
theorem dX6_rename_45 : decode cX6_rename 45 = .ok (.iload_n 2, 1) := by decide +kernel
theorem dX6_rename_46 : decode cX6_rename 46 = .ok (.iload_n 3, 1) := by decide +kernel
theorem dX6_rename_47 : decode cX6_rename 47 = .ok (.invokevirtual 157, 3) := by decide +kernel
theorem dX6_rename_50 : decode cX6_rename 50 = .ok (.ifCond .ne 6, 3) := by decide +kernel
theorem dX6_rename_53 : decode cX6_rename 53 = .ok (.bipush (-103), 2) := by decide +kernel
theorem dX6_rename_55 : decode cX6_rename 55 = .ok (.ireturn, 1) := by decide +kernel
theorem dX6_rename_56 : decode cX6_rename 56 = .ok (.aload_n 0, 1) := by decide +kernel
theorem dX6_rename_57 : decode cX6_rename 57 = .ok (.getfield 28, 3) := by decide +kernel
theorem dX6_rename_60 : decode cX6_rename 60 = .ok (.aload_n 0, 1) := by decide +kernel
theorem dX6_rename_61 : decode cX6_rename 61 = .ok (.getfield 28, 3) := by decide +kernel
theorem dX6_rename_64 : decode cX6_rename 64 = .ok (.getfield 90, 3) := by decide +kernel
theorem dX6_rename_67 : decode cX6_rename 67 = .ok (.iload_n 1, 1) := by decide +kernel
theorem dX6_rename_68 : decode cX6_rename 68 = .ok (.iload_n 2, 1) := by decide +kernel
theorem dX6_rename_69 : decode cX6_rename 69 = .ok (.iload_n 3, 1) := by decide +kernel
theorem dX6_rename_70 : decode cX6_rename 70 = .ok (.invokestatic 161, 3) := by decide +kernel
theorem dX6_rename_73 : decode cX6_rename 73 = .ok (.putfield 90, 3) := by decide +kernel
theorem dX6_rename_76 : decode cX6_rename 76 = .ok (.aload_n 0, 1) := by decide +kernel
theorem dX6_rename_77 : decode cX6_rename 77 = .ok (.getfield 28, 3) := by decide +kernel
theorem dX6_rename_80 : decode cX6_rename 80 = .ok (.getfield 90, 3) := by decide +kernel
theorem dX6_rename_83 : decode cX6_rename 83 = .ok (.iload_n 3, 1) := by decide +kernel
theorem dX6_rename_84 : decode cX6_rename 84 = .ok (.invokestatic 94, 3) := by decide +kernel
theorem dX6_rename_87 : decode cX6_rename 87 = .ok (.ireturn, 1) := by decide +kernel
theorem dX6_point_0 : decode cX6_point 0 = .ok (.aload_n 0, 1) := by decide +kernel
theorem dX6_point_1 : decode cX6_point 1 = .ok (.getfield 28, 3) := by decide +kernel
theorem dX6_point_4 : decode cX6_point 4 = .ok (.iload_n 1, 1) := by decide +kernel
theorem dX6_point_5 : decode cX6_point 5 = .ok (.invokevirtual 119, 3) := by decide +kernel
theorem dX6_point_8 : decode cX6_point 8 = .ok (.ifCond .eq 24, 3) := by decide +kernel
theorem dX6_point_11 : decode cX6_point 11 = .ok (.iload_n 2, 1) := by decide +kernel
theorem dX6_point_12 : decode cX6_point 12 = .ok (.iconst (-1), 1) := by decide +kernel
theorem dX6_point_13 : decode cX6_point 13 = .ok (.if_icmp .eq 14, 3) := by decide +kernel
theorem dX6_point_16 : decode cX6_point 16 = .ok (.aload_n 0, 1) := by decide +kernel
theorem dX6_point_17 : decode cX6_point 17 = .ok (.getfield 28, 3) := by decide +kernel
theorem dX6_point_20 : decode cX6_point 20 = .ok (.iload_n 2, 1) := by decide +kernel
theorem dX6_point_21 : decode cX6_point 21 = .ok (.invokevirtual 119, 3) := by decide +kernel
theorem dX6_point_24 : decode cX6_point 24 = .ok (.ifCond .eq 8, 3) := by decide +kernel
theorem dX6_point_27 : decode cX6_point 27 = .ok (.iload_n 1, 1) := by decide +kernel
theorem dX6_point_28 : decode cX6_point 28 = .ok (.iload_n 2, 1) := by decide +kernel
theorem dX6_point_29 : decode cX6_point 29 = .ok (.if_icmp .ne 6, 3) := by decide +kernel
theorem dX6_point_32 : decode cX6_point 32 = .ok (.bipush (-101), 2) := by decide +kernel
theorem dX6_point_34 : decode cX6_point 34 = .ok (.ireturn, 1) := by decide +kernel
theorem dX6_point_35 : decode cX6_point 35 = .ok (.aload_n 0, 1) := by decide +kernel
theorem dX6_point_36 : decode cX6_point 36 = .ok (.getfield 28, 3) := by decide +kernel
theorem dX6_point_39 : decode cX6_point 39 = .ok (.getfield 90, 3) := by decide +kernel
theorem dX6_point_42 : decode cX6_point 42 = .ok (.iload_n 1, 1) := by decide +kernel
theorem dX6_point_43 : decode cX6_point 43 = .ok (.invokestatic 134, 3) := by decide +kernel
theorem dX6_point_46 : decode cX6_point 46 = .ok (.ifCond .ne 6, 3) := by decide +kernel
theorem dX6_point_49 : decode cX6_point 49 = .ok (.bipush (-103), 2) := by decide +kernel
theorem dX6_point_51 : decode cX6_point 51 = .ok (.ireturn, 1) := by decide +kernel
theorem dX6_point_52 : decode cX6_point 52 = .ok (.aload_n 0, 1) := by decide +kernel
theorem dX6_point_53 : decode cX6_point 53 = .ok (.getfield 28, 3) := by decide +kernel
theorem dX6_point_56 : decode cX6_point 56 = .ok (.iload_n 1, 1) := by decide +kernel
theorem dX6_point_57 : decode cX6_point 57 = .ok (.iload_n 2, 1) := by decide +kernel
theorem dX6_point_58 : decode cX6_point 58 = .ok (.invokevirtual 165, 3) := by decide +kernel
theorem dX6_point_61 : decode cX6_point 61 = .ok (.ireturn, 1) := by decide +kernel
theorem dX6_burn_0 : decode cX6_burn 0 = .ok (.iload_n 1, 1) := by decide +kernel
theorem dX6_burn_1 : decode cX6_burn 1 = .ok (.invokestatic 79, 3) := by decide +kernel
theorem dX6_burn_4 : decode cX6_burn 4 = .ok (.ifCond .ne 6, 3) := by decide +kernel
theorem dX6_burn_7 : decode cX6_burn 7 = .ok (.bipush (-101), 2) := by decide +kernel
theorem dX6_burn_9 : decode cX6_burn 9 = .ok (.ireturn, 1) := by decide +kernel
theorem dX6_burn_10 : decode cX6_burn 10 = .ok (.aload_n 0, 1) := by decide +kernel
theorem dX6_burn_11 : decode cX6_burn 11 = .ok (.getfield 19, 3) := by decide +kernel
theorem dX6_burn_14 : decode cX6_burn 14 = .ok (.invokevirtual 105, 3) := by decide +kernel
theorem dX6_burn_17 : decode cX6_burn 17 = .ok (.ifCond .ne 6, 3) := by decide +kernel
theorem dX6_burn_20 : decode cX6_burn 20 = .ok (.bipush (-103), 2) := by decide +kernel
theorem dX6_burn_22 : decode cX6_burn 22 = .ok (.ireturn, 1) := by decide +kernel
theorem dX6_burn_23 : decode cX6_burn 23 = .ok (.aload_n 0, 1) := by decide +kernel
theorem dX6_burn_24 : decode cX6_burn 24 = .ok (.getfield 28, 3) := by decide +kernel
theorem dX6_burn_27 : decode cX6_burn 27 = .ok (.iload_n 1, 1) := by decide +kernel
theorem dX6_burn_28 : decode cX6_burn 28 = .ok (.invokevirtual 168, 3) := by decide +kernel
theorem dX6_burn_31 : decode cX6_burn 31 = .ok (.ireturn, 1) := by decide +kernel
theorem dX6_odds_0 : decode cX6_odds 0 = .ok (.aload_n 0, 1) := by decide +kernel
theorem dX6_odds_1 : decode cX6_odds 1 = .ok (.getfield 28, 3) := by decide +kernel
theorem dX6_odds_4 : decode cX6_odds 4 = .ok (.iload_n 1, 1) := by decide +kernel
theorem dX6_odds_5 : decode cX6_odds 5 = .ok (.invokevirtual 119, 3) := by decide +kernel
theorem dX6_odds_8 : decode cX6_odds 8 = .ok (.ifCond .ne 6, 3) := by decide +kernel
theorem dX6_odds_11 : decode cX6_odds 11 = .ok (.bipush (-101), 2) := by decide +kernel
theorem dX6_odds_13 : decode cX6_odds 13 = .ok (.ireturn, 1) := by decide +kernel
theorem dX6_odds_14 : decode cX6_odds 14 = .ok (.iload_n 2, 1) := by decide +kernel
theorem dX6_odds_15 : decode cX6_odds 15 = .ok (.iconst 0, 1) := by decide +kernel
theorem dX6_odds_16 : decode cX6_odds 16 = .ok (.iconst 4, 1) := by decide +kernel
theorem dX6_odds_17 : decode cX6_odds 17 = .ok (.invokestatic 83, 3) := by decide +kernel
theorem dX6_odds_20 : decode cX6_odds 20 = .ok (.ifCond .eq 12, 3) := by decide +kernel
theorem dX6_odds_23 : decode cX6_odds 23 = .ok (.iload_n 3, 1) := by decide +kernel
theorem dX6_odds_24 : decode cX6_odds 24 = .ok (.iconst 0, 1) := by decide +kernel
theorem dX6_odds_25 : decode cX6_odds 25 = .ok (.iconst 1, 1) := by decide +kernel
theorem dX6_odds_26 : decode cX6_odds 26 = .ok (.invokestatic 83, 3) := by decide +kernel
theorem dX6_odds_29 : decode cX6_odds 29 = .ok (.ifCond .ne 6, 3) := by decide +kernel
theorem dX6_odds_32 : decode cX6_odds 32 = .ok (.bipush (-102), 2) := by decide +kernel
theorem dX6_odds_34 : decode cX6_odds 34 = .ok (.ireturn, 1) := by decide +kernel
theorem dX6_odds_35 : decode cX6_odds 35 = .ok (.aload_n 0, 1) := by decide +kernel
theorem dX6_odds_36 : decode cX6_odds 36 = .ok (.getfield 40, 3) := by decide +kernel
theorem dX6_odds_39 : decode cX6_odds 39 = .ok (.aload_n 0, 1) := by decide +kernel
theorem dX6_odds_40 : decode cX6_odds 40 = .ok (.getfield 28, 3) := by decide +kernel
theorem dX6_odds_43 : decode cX6_odds 43 = .ok (.getfield 90, 3) := by decide +kernel
theorem dX6_odds_46 : decode cX6_odds 46 = .ok (.iload_n 1, 1) := by decide +kernel
theorem dX6_odds_47 : decode cX6_odds 47 = .ok (.iload_n 2, 1) := by decide +kernel
theorem dX6_odds_48 : decode cX6_odds 48 = .ok (.invokevirtual 171, 3) := by decide +kernel
theorem dX6_odds_51 : decode cX6_odds 51 = .ok (.istore 4, 2) := by decide +kernel
theorem dX6_odds_53 : decode cX6_odds 53 = .ok (.iload 4, 2) := by decide +kernel
theorem dX6_odds_55 : decode cX6_odds 55 = .ok (.iload_n 2, 1) := by decide +kernel
theorem dX6_odds_56 : decode cX6_odds 56 = .ok (.iload_n 3, 1) := by decide +kernel
theorem dX6_odds_57 : decode cX6_odds 57 = .ok (.invokestatic 175, 3) := by decide +kernel
theorem dX6_odds_60 : decode cX6_odds 60 = .ok (.ireturn, 1) := by decide +kernel
theorem dX6_where_0 : decode cX6_where 0 = .ok (.aload_n 0, 1) := by decide +kernel
theorem dX6_where_1 : decode cX6_where 1 = .ok (.getfield 28, 3) := by decide +kernel
theorem dX6_where_4 : decode cX6_where 4 = .ok (.iload_n 1, 1) := by decide +kernel
theorem dX6_where_5 : decode cX6_where 5 = .ok (.invokevirtual 119, 3) := by decide +kernel
theorem dX6_where_8 : decode cX6_where 8 = .ok (.ifCond .ne 6, 3) := by decide +kernel
theorem dX6_where_11 : decode cX6_where 11 = .ok (.bipush (-101), 2) := by decide +kernel
theorem dX6_where_13 : decode cX6_where 13 = .ok (.ireturn, 1) := by decide +kernel
theorem dX6_where_14 : decode cX6_where 14 = .ok (.iload_n 2, 1) := by decide +kernel
theorem dX6_where_15 : decode cX6_where 15 = .ok (.iconst 0, 1) := by decide +kernel
theorem dX6_where_16 : decode cX6_where 16 = .ok (.iconst 4, 1) := by decide +kernel
theorem dX6_where_17 : decode cX6_where 17 = .ok (.invokestatic 83, 3) := by decide +kernel
theorem dX6_where_20 : decode cX6_where 20 = .ok (.ifCond .ne 6, 3) := by decide +kernel
theorem dX6_where_23 : decode cX6_where 23 = .ok (.bipush (-102), 2) := by decide +kernel
theorem dX6_where_25 : decode cX6_where 25 = .ok (.ireturn, 1) := by decide +kernel
theorem dX6_where_26 : decode cX6_where 26 = .ok (.aload_n 0, 1) := by decide +kernel
theorem dX6_where_27 : decode cX6_where 27 = .ok (.getfield 40, 3) := by decide +kernel
theorem dX6_where_30 : decode cX6_where 30 = .ok (.iload_n 1, 1) := by decide +kernel
theorem dX6_where_31 : decode cX6_where 31 = .ok (.iload_n 2, 1) := by decide +kernel
theorem dX6_where_32 : decode cX6_where 32 = .ok (.invokevirtual 179, 3) := by decide +kernel
theorem dX6_where_35 : decode cX6_where 35 = .ok (.ireturn, 1) := by decide +kernel
theorem dX6_sure_0 : decode cX6_sure 0 = .ok (.iload_n 1, 1) := by decide +kernel
theorem dX6_sure_1 : decode cX6_sure 1 = .ok (.ifCond .eq 13, 3) := by decide +kernel
theorem dX6_sure_4 : decode cX6_sure 4 = .ok (.iload_n 1, 1) := by decide +kernel
theorem dX6_sure_5 : decode cX6_sure 5 = .ok (.iconst 3, 1) := by decide +kernel
theorem dX6_sure_6 : decode cX6_sure 6 = .ok (.if_icmp .eq 8, 3) := by decide +kernel
theorem dX6_sure_9 : decode cX6_sure 9 = .ok (.iload_n 1, 1) := by decide +kernel
theorem dX6_sure_10 : decode cX6_sure 10 = .ok (.iconst 4, 1) := by decide +kernel
theorem dX6_sure_11 : decode cX6_sure 11 = .ok (.if_icmp .ne 7, 3) := by decide +kernel
theorem dX6_sure_14 : decode cX6_sure 14 = .ok (.iconst 1, 1) := by decide +kernel
theorem dX6_sure_15 : decode cX6_sure 15 = .ok (.goto 4, 3) := by decide +kernel
theorem dX6_sure_18 : decode cX6_sure 18 = .ok (.iconst 0, 1) := by decide +kernel
theorem dX6_sure_19 : decode cX6_sure 19 = .ok (.istore 4, 2) := by decide +kernel
theorem dX6_sure_21 : decode cX6_sure 21 = .ok (.iload 4, 2) := by decide +kernel
theorem dX6_sure_23 : decode cX6_sure 23 = .ok (.ifCond .eq 21, 3) := by decide +kernel
theorem dX6_sure_26 : decode cX6_sure 26 = .ok (.iload_n 2, 1) := by decide +kernel
theorem dX6_sure_27 : decode cX6_sure 27 = .ok (.iconst 0, 1) := by decide +kernel
theorem dX6_sure_28 : decode cX6_sure 28 = .ok (.iconst 4, 1) := by decide +kernel
theorem dX6_sure_29 : decode cX6_sure 29 = .ok (.invokestatic 83, 3) := by decide +kernel
theorem dX6_sure_32 : decode cX6_sure 32 = .ok (.ifCond .eq 12, 3) := by decide +kernel
theorem dX6_sure_35 : decode cX6_sure 35 = .ok (.iload_n 3, 1) := by decide +kernel
theorem dX6_sure_36 : decode cX6_sure 36 = .ok (.iconst 0, 1) := by decide +kernel
theorem dX6_sure_37 : decode cX6_sure 37 = .ok (.iconst 1, 1) := by decide +kernel
theorem dX6_sure_38 : decode cX6_sure 38 = .ok (.invokestatic 83, 3) := by decide +kernel
theorem dX6_sure_41 : decode cX6_sure 41 = .ok (.ifCond .ne 6, 3) := by decide +kernel
theorem dX6_sure_44 : decode cX6_sure 44 = .ok (.bipush (-102), 2) := by decide +kernel
theorem dX6_sure_46 : decode cX6_sure 46 = .ok (.ireturn, 1) := by decide +kernel
theorem dX6_sure_47 : decode cX6_sure 47 = .ok (.aload_n 0, 1) := by decide +kernel
theorem dX6_sure_48 : decode cX6_sure 48 = .ok (.getfield 19, 3) := by decide +kernel
theorem dX6_sure_51 : decode cX6_sure 51 = .ok (.invokevirtual 105, 3) := by decide +kernel
theorem dX6_sure_54 : decode cX6_sure 54 = .ok (.ifCond .eq 12, 3) := by decide +kernel
theorem dX6_sure_57 : decode cX6_sure 57 = .ok (.aload_n 0, 1) := by decide +kernel
theorem dX6_sure_58 : decode cX6_sure 58 = .ok (.getfield 182, 3) := by decide +kernel
theorem dX6_sure_61 : decode cX6_sure 61 = .ok (.bipush 30, 2) := by decide +kernel
theorem dX6_sure_63 : decode cX6_sure 63 = .ok (.if_icmp .lt 6, 3) := by decide +kernel
theorem dX6_sure_66 : decode cX6_sure 66 = .ok (.bipush (-103), 2) := by decide +kernel
theorem dX6_sure_68 : decode cX6_sure 68 = .ok (.ireturn, 1) := by decide +kernel
theorem dX6_sure_69 : decode cX6_sure 69 = .ok (.aload_n 0, 1) := by decide +kernel
theorem dX6_sure_70 : decode cX6_sure 70 = .ok (.dup, 1) := by decide +kernel
theorem dX6_sure_71 : decode cX6_sure 71 = .ok (.getfield 182, 3) := by decide +kernel
theorem dX6_sure_74 : decode cX6_sure 74 = .ok (.iconst 1, 1) := by decide +kernel
theorem dX6_sure_75 : decode cX6_sure 75 = .ok (.iadd, 1) := by decide +kernel
theorem dX6_sure_76 : decode cX6_sure 76 = .ok (.putfield 182, 3) := by decide +kernel
theorem dX6_sure_79 : decode cX6_sure 79 = .ok (.aload_n 0, 1) := by decide +kernel
theorem dX6_sure_80 : decode cX6_sure 80 = .ok (.getfield 40, 3) := by decide +kernel
theorem dX6_sure_83 : decode cX6_sure 83 = .ok (.iload_n 1, 1) := by decide +kernel
theorem dX6_sure_84 : decode cX6_sure 84 = .ok (.iload_n 2, 1) := by decide +kernel
theorem dX6_sure_85 : decode cX6_sure 85 = .ok (.invokevirtual 185, 3) := by decide +kernel
theorem dX6_sure_88 : decode cX6_sure 88 = .ok (.istore 5, 2) := by decide +kernel
theorem dX6_sure_90 : decode cX6_sure 90 = .ok (.iload 5, 2) := by decide +kernel
theorem dX6_sure_92 : decode cX6_sure 92 = .ok (.iconst (-1), 1) := by decide +kernel
theorem dX6_sure_93 : decode cX6_sure 93 = .ok (.if_icmp .ne 5, 3) := by decide +kernel
theorem dX6_sure_96 : decode cX6_sure 96 = .ok (.iconst (-1), 1) := by decide +kernel
theorem dX6_sure_97 : decode cX6_sure 97 = .ok (.ireturn, 1) := by decide +kernel
theorem dX6_sure_98 : decode cX6_sure 98 = .ok (.iload_n 3, 1) := by decide +kernel
theorem dX6_sure_99 : decode cX6_sure 99 = .ok (.ifCond .ne 11, 3) := by decide +kernel
theorem dX6_sure_102 : decode cX6_sure 102 = .ok (.iload 5, 2) := by decide +kernel
theorem dX6_sure_104 : decode cX6_sure 104 = .ok (.invokestatic 152, 3) := by decide +kernel
theorem dX6_sure_107 : decode cX6_sure 107 = .ok (.goto 5, 3) := by decide +kernel
theorem dX6_sure_110 : decode cX6_sure 110 = .ok (.iload 5, 2) := by decide +kernel
theorem dX6_sure_112 : decode cX6_sure 112 = .ok (.ireturn, 1) := by decide +kernel
theorem dX6_nowhere_0 : decode cX6_nowhere 0 = .ok (.aload_n 0, 1) := by decide +kernel
theorem dX6_nowhere_1 : decode cX6_nowhere 1 = .ok (.getfield 28, 3) := by decide +kernel
theorem dX6_nowhere_4 : decode cX6_nowhere 4 = .ok (.invokevirtual 188, 3) := by decide +kernel
theorem dX6_nowhere_7 : decode cX6_nowhere 7 = .ok (.ireturn, 1) := by decide +kernel
theorem dX6_moving_0 : decode cX6_moving 0 = .ok (.iload_n 1, 1) := by decide +kernel
theorem dX6_moving_1 : decode cX6_moving 1 = .ok (.iconst 1, 1) := by decide +kernel
theorem dX6_moving_2 : decode cX6_moving 2 = .ok (.bipush 9, 2) := by decide +kernel
theorem dX6_moving_4 : decode cX6_moving 4 = .ok (.invokestatic 83, 3) := by decide +kernel
theorem dX6_moving_7 : decode cX6_moving 7 = .ok (.ifCond .ne 6, 3) := by decide +kernel
theorem dX6_moving_10 : decode cX6_moving 10 = .ok (.bipush (-102), 2) := by decide +kernel
theorem dX6_moving_12 : decode cX6_moving 12 = .ok (.ireturn, 1) := by decide +kernel
theorem dX6_moving_13 : decode cX6_moving 13 = .ok (.aload_n 0, 1) := by decide +kernel
theorem dX6_moving_14 : decode cX6_moving 14 = .ok (.getfield 19, 3) := by decide +kernel
theorem dX6_moving_17 : decode cX6_moving 17 = .ok (.invokevirtual 105, 3) := by decide +kernel
theorem dX6_moving_20 : decode cX6_moving 20 = .ok (.ifCond .eq 12, 3) := by decide +kernel
theorem dX6_moving_23 : decode cX6_moving 23 = .ok (.aload_n 0, 1) := by decide +kernel
theorem dX6_moving_24 : decode cX6_moving 24 = .ok (.getfield 191, 3) := by decide +kernel
theorem dX6_moving_27 : decode cX6_moving 27 = .ok (.bipush 10, 2) := by decide +kernel
theorem dX6_moving_29 : decode cX6_moving 29 = .ok (.if_icmp .lt 6, 3) := by decide +kernel
theorem dX6_moving_32 : decode cX6_moving 32 = .ok (.bipush (-103), 2) := by decide +kernel
theorem dX6_moving_34 : decode cX6_moving 34 = .ok (.ireturn, 1) := by decide +kernel
theorem dX6_moving_35 : decode cX6_moving 35 = .ok (.aload_n 0, 1) := by decide +kernel
theorem dX6_moving_36 : decode cX6_moving 36 = .ok (.dup, 1) := by decide +kernel
theorem dX6_moving_37 : decode cX6_moving 37 = .ok (.getfield 191, 3) := by decide +kernel
theorem dX6_moving_40 : decode cX6_moving 40 = .ok (.iconst 1, 1) := by decide +kernel
theorem dX6_moving_41 : decode cX6_moving 41 = .ok (.iadd, 1) := by decide +kernel
theorem dX6_moving_42 : decode cX6_moving 42 = .ok (.putfield 191, 3) := by decide +kernel
theorem dX6_moving_45 : decode cX6_moving 45 = .ok (.aload_n 0, 1) := by decide +kernel
theorem dX6_moving_46 : decode cX6_moving 46 = .ok (.getfield 40, 3) := by decide +kernel
theorem dX6_moving_49 : decode cX6_moving 49 = .ok (.iload_n 1, 1) := by decide +kernel
theorem dX6_moving_50 : decode cX6_moving 50 = .ok (.invokevirtual 194, 3) := by decide +kernel
theorem dX6_moving_53 : decode cX6_moving 53 = .ok (.ireturn, 1) := by decide +kernel
theorem dX6_ashes_0 : decode cX6_ashes 0 = .ok (.iload_n 1, 1) := by decide +kernel
theorem dX6_ashes_1 : decode cX6_ashes 1 = .ok (.iconst (-1), 1) := by decide +kernel
theorem dX6_ashes_2 : decode cX6_ashes 2 = .ok (.if_icmp .lt 16, 3) := by decide +kernel
theorem dX6_ashes_5 : decode cX6_ashes 5 = .ok (.iload_n 1, 1) := by decide +kernel
theorem dX6_ashes_6 : decode cX6_ashes 6 = .ok (.iconst 1, 1) := by decide +kernel
theorem dX6_ashes_7 : decode cX6_ashes 7 = .ok (.aload_n 0, 1) := by decide +kernel
theorem dX6_ashes_8 : decode cX6_ashes 8 = .ok (.getfield 28, 3) := by decide +kernel
theorem dX6_ashes_11 : decode cX6_ashes 11 = .ok (.getfield 112, 3) := by decide +kernel
theorem dX6_ashes_14 : decode cX6_ashes 14 = .ok (.ishl, 1) := by decide +kernel
theorem dX6_ashes_15 : decode cX6_ashes 15 = .ok (.if_icmp .lt 6, 3) := by decide +kernel
theorem dX6_ashes_18 : decode cX6_ashes 18 = .ok (.bipush (-102), 2) := by decide +kernel
theorem dX6_ashes_20 : decode cX6_ashes 20 = .ok (.ireturn, 1) := by decide +kernel
theorem dX6_ashes_21 : decode cX6_ashes 21 = .ok (.aload_n 0, 1) := by decide +kernel
theorem dX6_ashes_22 : decode cX6_ashes 22 = .ok (.getfield 28, 3) := by decide +kernel
theorem dX6_ashes_25 : decode cX6_ashes 25 = .ok (.getfield 197, 3) := by decide +kernel
theorem dX6_ashes_28 : decode cX6_ashes 28 = .ok (.iconst 5, 1) := by decide +kernel
theorem dX6_ashes_29 : decode cX6_ashes 29 = .ok (.if_icmp .lt 6, 3) := by decide +kernel
theorem dX6_ashes_32 : decode cX6_ashes 32 = .ok (.bipush (-104), 2) := by decide +kernel
theorem dX6_ashes_34 : decode cX6_ashes 34 = .ok (.ireturn, 1) := by decide +kernel
theorem dX6_ashes_35 : decode cX6_ashes 35 = .ok (.aload_n 0, 1) := by decide +kernel
theorem dX6_ashes_36 : decode cX6_ashes 36 = .ok (.getfield 28, 3) := by decide +kernel
theorem dX6_ashes_39 : decode cX6_ashes 39 = .ok (.iload_n 1, 1) := by decide +kernel
theorem dX6_ashes_40 : decode cX6_ashes 40 = .ok (.invokevirtual 200, 3) := by decide +kernel
theorem dX6_ashes_43 : decode cX6_ashes 43 = .ok (.ireturn, 1) := by decide +kernel
theorem dX6_forget_0 : decode cX6_forget 0 = .ok (.aload_n 0, 1) := by decide +kernel
theorem dX6_forget_1 : decode cX6_forget 1 = .ok (.getfield 28, 3) := by decide +kernel
theorem dX6_forget_4 : decode cX6_forget 4 = .ok (.invokevirtual 203, 3) := by decide +kernel
theorem dX6_forget_7 : decode cX6_forget 7 = .ok (.ireturn, 1) := by decide +kernel
theorem dX6_fits_0 : decode cX6_fits 0 = .ok (.aload_n 0, 1) := by decide +kernel
theorem dX6_fits_1 : decode cX6_fits 1 = .ok (.getfield 19, 3) := by decide +kernel
theorem dX6_fits_4 : decode cX6_fits 4 = .ok (.invokevirtual 105, 3) := by decide +kernel
theorem dX6_fits_7 : decode cX6_fits 7 = .ok (.ifCond .ne 6, 3) := by decide +kernel
theorem dX6_fits_10 : decode cX6_fits 10 = .ok (.bipush (-103), 2) := by decide +kernel
theorem dX6_fits_12 : decode cX6_fits 12 = .ok (.ireturn, 1) := by decide +kernel
theorem dX6_fits_13 : decode cX6_fits 13 = .ok (.aload_n 0, 1) := by decide +kernel
theorem dX6_fits_14 : decode cX6_fits 14 = .ok (.getfield 40, 3) := by decide +kernel
theorem dX6_fits_17 : decode cX6_fits 17 = .ok (.invokevirtual 206, 3) := by decide +kernel
theorem dX6_fits_20 : decode cX6_fits 20 = .ok (.ireturn, 1) := by decide +kernel
theorem dX6_burnt_0 : decode cX6_burnt 0 = .ok (.iload_n 1, 1) := by decide +kernel
theorem dX6_burnt_1 : decode cX6_burnt 1 = .ok (.iconst 0, 1) := by decide +kernel
theorem dX6_burnt_2 : decode cX6_burnt 2 = .ok (.aload_n 0, 1) := by decide +kernel
theorem dX6_burnt_3 : decode cX6_burnt 3 = .ok (.getfield 28, 3) := by decide +kernel
theorem dX6_burnt_6 : decode cX6_burnt 6 = .ok (.getfield 197, 3) := by decide +kernel
theorem dX6_burnt_9 : decode cX6_burnt 9 = .ok (.iconst 1, 1) := by decide +kernel
theorem dX6_burnt_10 : decode cX6_burnt 10 = .ok (.isub, 1) := by decide +kernel
theorem dX6_burnt_11 : decode cX6_burnt 11 = .ok (.invokestatic 83, 3) := by decide +kernel
theorem dX6_burnt_14 : decode cX6_burnt 14 = .ok (.ifCond .ne 6, 3) := by decide +kernel
theorem dX6_burnt_17 : decode cX6_burnt 17 = .ok (.bipush (-101), 2) := by decide +kernel
theorem dX6_burnt_19 : decode cX6_burnt 19 = .ok (.ireturn, 1) := by decide +kernel
theorem dX6_burnt_20 : decode cX6_burnt 20 = .ok (.aload_n 0, 1) := by decide +kernel
theorem dX6_burnt_21 : decode cX6_burnt 21 = .ok (.getfield 19, 3) := by decide +kernel
theorem dX6_burnt_24 : decode cX6_burnt 24 = .ok (.invokevirtual 105, 3) := by decide +kernel
theorem dX6_burnt_27 : decode cX6_burnt 27 = .ok (.ifCond .ne 6, 3) := by decide +kernel
theorem dX6_burnt_30 : decode cX6_burnt 30 = .ok (.bipush (-103), 2) := by decide +kernel
theorem dX6_burnt_32 : decode cX6_burnt 32 = .ok (.ireturn, 1) := by decide +kernel
theorem dX6_burnt_33 : decode cX6_burnt 33 = .ok (.aload_n 0, 1) := by decide +kernel
theorem dX6_burnt_34 : decode cX6_burnt 34 = .ok (.getfield 40, 3) := by decide +kernel
theorem dX6_burnt_37 : decode cX6_burnt 37 = .ok (.iload_n 1, 1) := by decide +kernel
theorem dX6_burnt_38 : decode cX6_burnt 38 = .ok (.invokevirtual 209, 3) := by decide +kernel
theorem dX6_burnt_41 : decode cX6_burnt 41 = .ok (.ireturn, 1) := by decide +kernel
theorem dX6_years_0 : decode cX6_years 0 = .ok (.iload_n 1, 1) := by decide +kernel
theorem dX6_years_1 : decode cX6_years 1 = .ok (.iconst 1, 1) := by decide +kernel
theorem dX6_years_2 : decode cX6_years 2 = .ok (.bipush 60, 2) := by decide +kernel
theorem dX6_years_4 : decode cX6_years 4 = .ok (.invokestatic 83, 3) := by decide +kernel
theorem dX6_years_7 : decode cX6_years 7 = .ok (.ifCond .eq 16, 3) := by decide +kernel
theorem dX6_years_10 : decode cX6_years 10 = .ok (.iload_n 2, 1) := by decide +kernel
theorem dX6_years_11 : decode cX6_years 11 = .ok (.ifCond .lt 12, 3) := by decide +kernel
theorem dX6_years_14 : decode cX6_years 14 = .ok (.iload_n 3, 1) := by decide +kernel
theorem dX6_years_15 : decode cX6_years 15 = .ok (.iconst 0, 1) := by decide +kernel
theorem dX6_years_16 : decode cX6_years 16 = .ok (.iconst 2, 1) := by decide +kernel
theorem dX6_years_17 : decode cX6_years 17 = .ok (.invokestatic 83, 3) := by decide +kernel
theorem dX6_years_20 : decode cX6_years 20 = .ok (.ifCond .ne 6, 3) := by decide +kernel
theorem dX6_years_23 : decode cX6_years 23 = .ok (.bipush (-102), 2) := by decide +kernel
theorem dX6_years_25 : decode cX6_years 25 = .ok (.ireturn, 1) := by decide +kernel
theorem dX6_years_26 : decode cX6_years 26 = .ok (.aload_n 0, 1) := by decide +kernel
theorem dX6_years_27 : decode cX6_years 27 = .ok (.getfield 19, 3) := by decide +kernel
theorem dX6_years_30 : decode cX6_years 30 = .ok (.invokevirtual 105, 3) := by decide +kernel
theorem dX6_years_33 : decode cX6_years 33 = .ok (.ifCond .ne 6, 3) := by decide +kernel
theorem dX6_years_36 : decode cX6_years 36 = .ok (.bipush (-103), 2) := by decide +kernel
theorem dX6_years_38 : decode cX6_years 38 = .ok (.ireturn, 1) := by decide +kernel
theorem dX6_years_39 : decode cX6_years 39 = .ok (.aload_n 0, 1) := by decide +kernel
theorem dX6_years_40 : decode cX6_years 40 = .ok (.getfield 28, 3) := by decide +kernel
theorem dX6_years_43 : decode cX6_years 43 = .ok (.getfield 90, 3) := by decide +kernel
theorem dX6_years_46 : decode cX6_years 46 = .ok (.lstore 4, 2) := by decide +kernel
theorem dX6_years_48 : decode cX6_years 48 = .ok (.iload_n 2, 1) := by decide +kernel
theorem dX6_years_49 : decode cX6_years 49 = .ok (.istore 6, 2) := by decide +kernel
theorem dX6_years_51 : decode cX6_years 51 = .ok (.iconst 0, 1) := by decide +kernel
theorem dX6_years_52 : decode cX6_years 52 = .ok (.istore 7, 2) := by decide +kernel
theorem dX6_years_54 : decode cX6_years 54 = .ok (.iload 7, 2) := by decide +kernel
theorem dX6_years_56 : decode cX6_years 56 = .ok (.iload_n 1, 1) := by decide +kernel
theorem dX6_years_57 : decode cX6_years 57 = .ok (.if_icmp .ge 53, 3) := by decide +kernel
theorem dX6_years_60 : decode cX6_years 60 = .ok (.iload 6, 2) := by decide +kernel
theorem dX6_years_62 : decode cX6_years 62 = .ok (.invokestatic 212, 3) := by decide +kernel
theorem dX6_years_65 : decode cX6_years 65 = .ok (.istore 6, 2) := by decide +kernel
theorem dX6_years_67 : decode cX6_years 67 = .ok (.aload_n 0, 1) := by decide +kernel
theorem dX6_years_68 : decode cX6_years 68 = .ok (.getfield 19, 3) := by decide +kernel
theorem dX6_years_71 : decode cX6_years 71 = .ok (.iload 6, 2) := by decide +kernel
theorem dX6_years_73 : decode cX6_years 73 = .ok (.ldc 215, 2) := by decide +kernel
theorem dX6_years_75 : decode cX6_years 75 = .ok (.idiv, 1) := by decide +kernel
theorem dX6_years_76 : decode cX6_years 76 = .ok (.bipush 10, 2) := by decide +kernel
theorem dX6_years_78 : decode cX6_years 78 = .ok (.irem, 1) := by decide +kernel
theorem dX6_years_79 : decode cX6_years 79 = .ok (.invokevirtual 216, 3) := by decide +kernel
theorem dX6_years_82 : decode cX6_years 82 = .ok (.istore 8, 2) := by decide +kernel
theorem dX6_years_84 : decode cX6_years 84 = .ok (.aload_n 0, 1) := by decide +kernel
theorem dX6_years_85 : decode cX6_years 85 = .ok (.getfield 28, 3) := by decide +kernel
theorem dX6_years_88 : decode cX6_years 88 = .ok (.aload_n 0, 1) := by decide +kernel
theorem dX6_years_89 : decode cX6_years 89 = .ok (.getfield 28, 3) := by decide +kernel
theorem dX6_years_92 : decode cX6_years 92 = .ok (.lload 4, 2) := by decide +kernel
theorem dX6_years_94 : decode cX6_years 94 = .ok (.iload 8, 2) := by decide +kernel
theorem dX6_years_96 : decode cX6_years 96 = .ok (.invokevirtual 219, 3) := by decide +kernel
theorem dX6_years_99 : decode cX6_years 99 = .ok (.invokevirtual 223, 3) := by decide +kernel
theorem dX6_years_102 : decode cX6_years 102 = .ok (.lstore 4, 2) := by decide +kernel
theorem dX6_years_104 : decode cX6_years 104 = .ok (.iinc 7 1, 3) := by decide +kernel
theorem dX6_years_107 : decode cX6_years 107 = .ok (.goto (-53), 3) := by decide +kernel
theorem dX6_years_110 : decode cX6_years 110 = .ok (.iload_n 3, 1) := by decide +kernel
theorem dX6_years_111 : decode cX6_years 111 = .ok (.ifCond .ne 9, 3) := by decide +kernel
theorem dX6_years_114 : decode cX6_years 114 = .ok (.lload 4, 2) := by decide +kernel
theorem dX6_years_116 : decode cX6_years 116 = .ok (.invokestatic 227, 3) := by decide +kernel
theorem dX6_years_119 : decode cX6_years 119 = .ok (.ireturn, 1) := by decide +kernel
theorem dX6_years_120 : decode cX6_years 120 = .ok (.iload_n 3, 1) := by decide +kernel
theorem dX6_years_121 : decode cX6_years 121 = .ok (.iconst 1, 1) := by decide +kernel
theorem dX6_years_122 : decode cX6_years 122 = .ok (.if_icmp .ne 11, 3) := by decide +kernel
theorem dX6_years_125 : decode cX6_years 125 = .ok (.lload 4, 2) := by decide +kernel
theorem dX6_years_127 : decode cX6_years 127 = .ok (.invokestatic 231, 3) := by decide +kernel
theorem dX6_years_130 : decode cX6_years 130 = .ok (.goto 5, 3) := by decide +kernel
theorem dX6_years_133 : decode cX6_years 133 = .ok (.iload 6, 2) := by decide +kernel
theorem dX6_years_135 : decode cX6_years 135 = .ok (.ireturn, 1) := by decide +kernel
theorem dX6_image_0 : decode cX6_image 0 = .ok (.aload_n 0, 1) := by decide +kernel
theorem dX6_image_1 : decode cX6_image 1 = .ok (.getfield 19, 3) := by decide +kernel
theorem dX6_image_4 : decode cX6_image 4 = .ok (.invokevirtual 105, 3) := by decide +kernel
theorem dX6_image_7 : decode cX6_image 7 = .ok (.ifCond .ne 6, 3) := by decide +kernel
theorem dX6_image_10 : decode cX6_image 10 = .ok (.bipush (-103), 2) := by decide +kernel
theorem dX6_image_12 : decode cX6_image 12 = .ok (.ireturn, 1) := by decide +kernel
theorem dX6_image_13 : decode cX6_image 13 = .ok (.aload_n 0, 1) := by decide +kernel
theorem dX6_image_14 : decode cX6_image 14 = .ok (.getfield 32, 3) := by decide +kernel
theorem dX6_image_17 : decode cX6_image 17 = .ok (.aload_n 0, 1) := by decide +kernel
theorem dX6_image_18 : decode cX6_image 18 = .ok (.getfield 28, 3) := by decide +kernel
theorem dX6_image_21 : decode cX6_image 21 = .ok (.invokevirtual 234, 3) := by decide +kernel
theorem dX6_image_24 : decode cX6_image 24 = .ok (.aload_n 0, 1) := by decide +kernel
theorem dX6_image_25 : decode cX6_image 25 = .ok (.iconst 1, 1) := by decide +kernel
theorem dX6_image_26 : decode cX6_image 26 = .ok (.putfield 68, 3) := by decide +kernel
theorem dX6_image_29 : decode cX6_image 29 = .ok (.aload_n 0, 1) := by decide +kernel
theorem dX6_image_30 : decode cX6_image 30 = .ok (.getfield 28, 3) := by decide +kernel
theorem dX6_image_33 : decode cX6_image 33 = .ok (.getfield 238, 3) := by decide +kernel
theorem dX6_image_36 : decode cX6_image 36 = .ok (.ireturn, 1) := by decide +kernel
theorem dX6_restore_0 : decode cX6_restore 0 = .ok (.aload_n 0, 1) := by decide +kernel
theorem dX6_restore_1 : decode cX6_restore 1 = .ok (.getfield 68, 3) := by decide +kernel
theorem dX6_restore_4 : decode cX6_restore 4 = .ok (.ifCond .ne 6, 3) := by decide +kernel
theorem dX6_restore_7 : decode cX6_restore 7 = .ok (.bipush (-103), 2) := by decide +kernel
theorem dX6_restore_9 : decode cX6_restore 9 = .ok (.ireturn, 1) := by decide +kernel
theorem dX6_restore_10 : decode cX6_restore 10 = .ok (.aload_n 0, 1) := by decide +kernel
theorem dX6_restore_11 : decode cX6_restore 11 = .ok (.getfield 28, 3) := by decide +kernel
theorem dX6_restore_14 : decode cX6_restore 14 = .ok (.aload_n 0, 1) := by decide +kernel
theorem dX6_restore_15 : decode cX6_restore 15 = .ok (.getfield 32, 3) := by decide +kernel
theorem dX6_restore_18 : decode cX6_restore 18 = .ok (.invokevirtual 234, 3) := by decide +kernel
theorem dX6_restore_21 : decode cX6_restore 21 = .ok (.aload_n 0, 1) := by decide +kernel
theorem dX6_restore_22 : decode cX6_restore 22 = .ok (.getfield 28, 3) := by decide +kernel
theorem dX6_restore_25 : decode cX6_restore 25 = .ok (.getfield 238, 3) := by decide +kernel
theorem dX6_restore_28 : decode cX6_restore 28 = .ok (.ireturn, 1) := by decide +kernel
theorem dX6_count_0 : decode cX6_count 0 = .ok (.iload_n 1, 1) := by decide +kernel
theorem dX6_count_1 : decode cX6_count 1 = .ok (.tableswitch 135 0 9 #[55, 63, 71, 85, 96, 104, 112, 120, 125, 130], 55) := by decide +kernel
theorem dX6_count_56 : decode cX6_count 56 = .ok (.aload_n 0, 1) := by decide +kernel
theorem dX6_count_57 : decode cX6_count 57 = .ok (.getfield 19, 3) := by decide +kernel
theorem dX6_count_60 : decode cX6_count 60 = .ok (.getfield 76, 3) := by decide +kernel
theorem dX6_count_63 : decode cX6_count 63 = .ok (.ireturn, 1) := by decide +kernel
theorem dX6_count_64 : decode cX6_count 64 = .ok (.aload_n 0, 1) := by decide +kernel
theorem dX6_count_65 : decode cX6_count 65 = .ok (.getfield 28, 3) := by decide +kernel
theorem dX6_count_68 : decode cX6_count 68 = .ok (.getfield 112, 3) := by decide +kernel
theorem dX6_count_71 : decode cX6_count 71 = .ok (.ireturn, 1) := by decide +kernel
theorem dX6_count_72 : decode cX6_count 72 = .ok (.aload_n 0, 1) := by decide +kernel
theorem dX6_count_73 : decode cX6_count 73 = .ok (.getfield 28, 3) := by decide +kernel
theorem dX6_count_76 : decode cX6_count 76 = .ok (.getfield 90, 3) := by decide +kernel
theorem dX6_count_79 : decode cX6_count 79 = .ok (.invokestatic 227, 3) := by decide +kernel
theorem dX6_count_82 : decode cX6_count 82 = .ok (.invokestatic 152, 3) := by decide +kernel
theorem dX6_count_85 : decode cX6_count 85 = .ok (.ireturn, 1) := by decide +kernel
theorem dX6_count_86 : decode cX6_count 86 = .ok (.aload_n 0, 1) := by decide +kernel
theorem dX6_count_87 : decode cX6_count 87 = .ok (.getfield 28, 3) := by decide +kernel
theorem dX6_count_90 : decode cX6_count 90 = .ok (.getfield 90, 3) := by decide +kernel
theorem dX6_count_93 : decode cX6_count 93 = .ok (.invokestatic 231, 3) := by decide +kernel
theorem dX6_count_96 : decode cX6_count 96 = .ok (.ireturn, 1) := by decide +kernel
theorem dX6_count_97 : decode cX6_count 97 = .ok (.aload_n 0, 1) := by decide +kernel
theorem dX6_count_98 : decode cX6_count 98 = .ok (.getfield 28, 3) := by decide +kernel
theorem dX6_count_101 : decode cX6_count 101 = .ok (.getfield 238, 3) := by decide +kernel
theorem dX6_count_104 : decode cX6_count 104 = .ok (.ireturn, 1) := by decide +kernel
theorem dX6_count_105 : decode cX6_count 105 = .ok (.aload_n 0, 1) := by decide +kernel
theorem dX6_count_106 : decode cX6_count 106 = .ok (.getfield 28, 3) := by decide +kernel
theorem dX6_count_109 : decode cX6_count 109 = .ok (.getfield 197, 3) := by decide +kernel
theorem dX6_count_112 : decode cX6_count 112 = .ok (.ireturn, 1) := by decide +kernel
theorem dX6_count_113 : decode cX6_count 113 = .ok (.aload_n 0, 1) := by decide +kernel
theorem dX6_count_114 : decode cX6_count 114 = .ok (.getfield 10, 3) := by decide +kernel
theorem dX6_count_117 : decode cX6_count 117 = .ok (.getfield 241, 3) := by decide +kernel
theorem dX6_count_120 : decode cX6_count 120 = .ok (.ireturn, 1) := by decide +kernel
theorem dX6_count_121 : decode cX6_count 121 = .ok (.aload_n 0, 1) := by decide +kernel
theorem dX6_count_122 : decode cX6_count 122 = .ok (.getfield 72, 3) := by decide +kernel
theorem dX6_count_125 : decode cX6_count 125 = .ok (.ireturn, 1) := by decide +kernel
theorem dX6_count_126 : decode cX6_count 126 = .ok (.aload_n 0, 1) := by decide +kernel
theorem dX6_count_127 : decode cX6_count 127 = .ok (.getfield 182, 3) := by decide +kernel
theorem dX6_count_130 : decode cX6_count 130 = .ok (.ireturn, 1) := by decide +kernel
theorem dX6_count_131 : decode cX6_count 131 = .ok (.aload_n 0, 1) := by decide +kernel
theorem dX6_count_132 : decode cX6_count 132 = .ok (.getfield 191, 3) := by decide +kernel
theorem dX6_count_135 : decode cX6_count 135 = .ok (.ireturn, 1) := by decide +kernel
theorem dX6_count_136 : decode cX6_count 136 = .ok (.bipush (-102), 2) := by decide +kernel
theorem dX6_count_138 : decode cX6_count 138 = .ok (.ireturn, 1) := by decide +kernel
theorem dX6_digest_0 : decode cX6_digest 0 = .ok (.ldc2_w 244, 3) := by decide +kernel
theorem dX6_digest_3 : decode cX6_digest 3 = .ok (.lstore_n 1, 1) := by decide +kernel
theorem dX6_digest_4 : decode cX6_digest 4 = .ok (.iconst 0, 1) := by decide +kernel
theorem dX6_digest_5 : decode cX6_digest 5 = .ok (.istore_n 3, 1) := by decide +kernel
theorem dX6_digest_6 : decode cX6_digest 6 = .ok (.iload_n 3, 1) := by decide +kernel
theorem dX6_digest_7 : decode cX6_digest 7 = .ok (.bipush 6, 2) := by decide +kernel
theorem dX6_digest_9 : decode cX6_digest 9 = .ok (.if_icmp .ge 33, 3) := by decide +kernel
theorem dX6_digest_12 : decode cX6_digest 12 = .ok (.lload_n 1, 1) := by decide +kernel
theorem dX6_digest_13 : decode cX6_digest 13 = .ok (.aload_n 0, 1) := by decide +kernel
theorem dX6_digest_14 : decode cX6_digest 14 = .ok (.iload_n 3, 1) := by decide +kernel
theorem dX6_digest_15 : decode cX6_digest 15 = .ok (.iconst 0, 1) := by decide +kernel
theorem dX6_digest_16 : decode cX6_digest 16 = .ok (.invokevirtual 246, 3) := by decide +kernel
theorem dX6_digest_19 : decode cX6_digest 19 = .ok (.i2l, 1) := by decide +kernel
theorem dX6_digest_20 : decode cX6_digest 20 = .ok (.invokestatic 249, 3) := by decide +kernel
theorem dX6_digest_23 : decode cX6_digest 23 = .ok (.lstore_n 1, 1) := by decide +kernel
theorem dX6_digest_24 : decode cX6_digest 24 = .ok (.lload_n 1, 1) := by decide +kernel
theorem dX6_digest_25 : decode cX6_digest 25 = .ok (.aload_n 0, 1) := by decide +kernel
theorem dX6_digest_26 : decode cX6_digest 26 = .ok (.iload_n 3, 1) := by decide +kernel
theorem dX6_digest_27 : decode cX6_digest 27 = .ok (.iconst 1, 1) := by decide +kernel
theorem dX6_digest_28 : decode cX6_digest 28 = .ok (.invokevirtual 246, 3) := by decide +kernel
theorem dX6_digest_31 : decode cX6_digest 31 = .ok (.i2l, 1) := by decide +kernel
theorem dX6_digest_32 : decode cX6_digest 32 = .ok (.invokestatic 249, 3) := by decide +kernel
theorem dX6_digest_35 : decode cX6_digest 35 = .ok (.lstore_n 1, 1) := by decide +kernel
theorem dX6_digest_36 : decode cX6_digest 36 = .ok (.iinc 3 1, 3) := by decide +kernel
theorem dX6_digest_39 : decode cX6_digest 39 = .ok (.goto (-33), 3) := by decide +kernel
theorem dX6_digest_42 : decode cX6_digest 42 = .ok (.iconst 0, 1) := by decide +kernel
theorem dX6_digest_43 : decode cX6_digest 43 = .ok (.istore_n 3, 1) := by decide +kernel
theorem dX6_digest_44 : decode cX6_digest 44 = .ok (.iload_n 3, 1) := by decide +kernel
theorem dX6_digest_45 : decode cX6_digest 45 = .ok (.iconst 5, 1) := by decide +kernel
theorem dX6_digest_46 : decode cX6_digest 46 = .ok (.if_icmp .ge 27, 3) := by decide +kernel
theorem dX6_digest_49 : decode cX6_digest 49 = .ok (.aload_n 0, 1) := by decide +kernel
theorem dX6_digest_50 : decode cX6_digest 50 = .ok (.getfield 28, 3) := by decide +kernel
theorem dX6_digest_53 : decode cX6_digest 53 = .ok (.iload_n 3, 1) := by decide +kernel
theorem dX6_digest_54 : decode cX6_digest 54 = .ok (.invokevirtual 119, 3) := by decide +kernel
theorem dX6_digest_57 : decode cX6_digest 57 = .ok (.ifCond .eq 10, 3) := by decide +kernel
theorem dX6_digest_60 : decode cX6_digest 60 = .ok (.aload_n 0, 1) := by decide +kernel
theorem dX6_digest_61 : decode cX6_digest 61 = .ok (.lload_n 1, 1) := by decide +kernel
theorem dX6_digest_62 : decode cX6_digest 62 = .ok (.iload_n 3, 1) := by decide +kernel
theorem dX6_digest_63 : decode cX6_digest 63 = .ok (.invokevirtual 253, 3) := by decide +kernel
theorem dX6_digest_66 : decode cX6_digest 66 = .ok (.lstore_n 1, 1) := by decide +kernel
theorem dX6_digest_67 : decode cX6_digest 67 = .ok (.iinc 3 1, 3) := by decide +kernel
theorem dX6_digest_70 : decode cX6_digest 70 = .ok (.goto (-26), 3) := by decide +kernel
theorem dX6_digest_73 : decode cX6_digest 73 = .ok (.lload_n 1, 1) := by decide +kernel
theorem dX6_digest_74 : decode cX6_digest 74 = .ok (.aload_n 0, 1) := by decide +kernel
theorem dX6_digest_75 : decode cX6_digest 75 = .ok (.invokevirtual 256, 3) := by decide +kernel
theorem dX6_digest_78 : decode cX6_digest 78 = .ok (.i2l, 1) := by decide +kernel
theorem dX6_digest_79 : decode cX6_digest 79 = .ok (.invokestatic 249, 3) := by decide +kernel
theorem dX6_digest_82 : decode cX6_digest 82 = .ok (.lstore_n 1, 1) := by decide +kernel
theorem dX6_digest_83 : decode cX6_digest 83 = .ok (.aload_n 0, 1) := by decide +kernel
theorem dX6_digest_84 : decode cX6_digest 84 = .ok (.getfield 19, 3) := by decide +kernel
theorem dX6_digest_87 : decode cX6_digest 87 = .ok (.invokevirtual 105, 3) := by decide +kernel
theorem dX6_digest_90 : decode cX6_digest 90 = .ok (.ifCond .eq 13, 3) := by decide +kernel
theorem dX6_digest_93 : decode cX6_digest 93 = .ok (.lload_n 1, 1) := by decide +kernel
theorem dX6_digest_94 : decode cX6_digest 94 = .ok (.aload_n 0, 1) := by decide +kernel
theorem dX6_digest_95 : decode cX6_digest 95 = .ok (.invokevirtual 259, 3) := by decide +kernel
theorem dX6_digest_98 : decode cX6_digest 98 = .ok (.i2l, 1) := by decide +kernel
theorem dX6_digest_99 : decode cX6_digest 99 = .ok (.invokestatic 249, 3) := by decide +kernel
theorem dX6_digest_102 : decode cX6_digest 102 = .ok (.lstore_n 1, 1) := by decide +kernel
theorem dX6_digest_103 : decode cX6_digest 103 = .ok (.iconst 0, 1) := by decide +kernel
theorem dX6_digest_104 : decode cX6_digest 104 = .ok (.istore_n 3, 1) := by decide +kernel
theorem dX6_digest_105 : decode cX6_digest 105 = .ok (.iload_n 3, 1) := by decide +kernel
theorem dX6_digest_106 : decode cX6_digest 106 = .ok (.aload_n 0, 1) := by decide +kernel
theorem dX6_digest_107 : decode cX6_digest 107 = .ok (.getfield 10, 3) := by decide +kernel
theorem dX6_digest_110 : decode cX6_digest 110 = .ok (.getfield 241, 3) := by decide +kernel
theorem dX6_digest_113 : decode cX6_digest 113 = .ok (.if_icmp .ge 23, 3) := by decide +kernel
theorem dX6_digest_116 : decode cX6_digest 116 = .ok (.lload_n 1, 1) := by decide +kernel
theorem dX6_digest_117 : decode cX6_digest 117 = .ok (.aload_n 0, 1) := by decide +kernel
theorem dX6_digest_118 : decode cX6_digest 118 = .ok (.getfield 10, 3) := by decide +kernel
theorem dX6_digest_121 : decode cX6_digest 121 = .ok (.iload_n 3, 1) := by decide +kernel
theorem dX6_digest_122 : decode cX6_digest 122 = .ok (.invokevirtual 262, 3) := by decide +kernel
theorem dX6_digest_125 : decode cX6_digest 125 = .ok (.i2l, 1) := by decide +kernel
theorem dX6_digest_126 : decode cX6_digest 126 = .ok (.invokestatic 249, 3) := by decide +kernel
theorem dX6_digest_129 : decode cX6_digest 129 = .ok (.lstore_n 1, 1) := by decide +kernel
theorem dX6_digest_130 : decode cX6_digest 130 = .ok (.iinc 3 1, 3) := by decide +kernel
theorem dX6_digest_133 : decode cX6_digest 133 = .ok (.goto (-28), 3) := by decide +kernel
theorem dX6_digest_136 : decode cX6_digest 136 = .ok (.iconst 0, 1) := by decide +kernel
theorem dX6_digest_137 : decode cX6_digest 137 = .ok (.istore_n 3, 1) := by decide +kernel
theorem dX6_digest_138 : decode cX6_digest 138 = .ok (.iload_n 3, 1) := by decide +kernel
theorem dX6_digest_139 : decode cX6_digest 139 = .ok (.bipush 10, 2) := by decide +kernel
theorem dX6_digest_141 : decode cX6_digest 141 = .ok (.if_icmp .ge 20, 3) := by decide +kernel
theorem dX6_digest_144 : decode cX6_digest 144 = .ok (.lload_n 1, 1) := by decide +kernel
theorem dX6_digest_145 : decode cX6_digest 145 = .ok (.aload_n 0, 1) := by decide +kernel
theorem dX6_digest_146 : decode cX6_digest 146 = .ok (.iload_n 3, 1) := by decide +kernel
theorem dX6_digest_147 : decode cX6_digest 147 = .ok (.invokevirtual 265, 3) := by decide +kernel
theorem dX6_digest_150 : decode cX6_digest 150 = .ok (.i2l, 1) := by decide +kernel
theorem dX6_digest_151 : decode cX6_digest 151 = .ok (.invokestatic 249, 3) := by decide +kernel
theorem dX6_digest_154 : decode cX6_digest 154 = .ok (.lstore_n 1, 1) := by decide +kernel
theorem dX6_digest_155 : decode cX6_digest 155 = .ok (.iinc 3 1, 3) := by decide +kernel
theorem dX6_digest_158 : decode cX6_digest 158 = .ok (.goto (-20), 3) := by decide +kernel
theorem dX6_digest_161 : decode cX6_digest 161 = .ok (.lload_n 1, 1) := by decide +kernel
theorem dX6_digest_162 : decode cX6_digest 162 = .ok (.lreturn, 1) := by decide +kernel
theorem dX6_mixedWithFile_0 : decode cX6_mixedWithFile 0 = .ok (.lload_n 1, 1) := by decide +kernel
theorem dX6_mixedWithFile_1 : decode cX6_mixedWithFile 1 = .ok (.lstore 4, 2) := by decide +kernel
theorem dX6_mixedWithFile_3 : decode cX6_mixedWithFile 3 = .ok (.iconst 0, 1) := by decide +kernel
theorem dX6_mixedWithFile_4 : decode cX6_mixedWithFile 4 = .ok (.istore 6, 2) := by decide +kernel
theorem dX6_mixedWithFile_6 : decode cX6_mixedWithFile 6 = .ok (.iload 6, 2) := by decide +kernel
theorem dX6_mixedWithFile_8 : decode cX6_mixedWithFile 8 = .ok (.bipush 6, 2) := by decide +kernel
theorem dX6_mixedWithFile_10 : decode cX6_mixedWithFile 10 = .ok (.if_icmp .ge 24, 3) := by decide +kernel
theorem dX6_mixedWithFile_13 : decode cX6_mixedWithFile 13 = .ok (.lload 4, 2) := by decide +kernel
theorem dX6_mixedWithFile_15 : decode cX6_mixedWithFile 15 = .ok (.aload_n 0, 1) := by decide +kernel
theorem dX6_mixedWithFile_16 : decode cX6_mixedWithFile 16 = .ok (.iload_n 3, 1) := by decide +kernel
theorem dX6_mixedWithFile_17 : decode cX6_mixedWithFile 17 = .ok (.iload 6, 2) := by decide +kernel
theorem dX6_mixedWithFile_19 : decode cX6_mixedWithFile 19 = .ok (.invokevirtual 268, 3) := by decide +kernel
theorem dX6_mixedWithFile_22 : decode cX6_mixedWithFile 22 = .ok (.i2l, 1) := by decide +kernel
theorem dX6_mixedWithFile_23 : decode cX6_mixedWithFile 23 = .ok (.invokestatic 249, 3) := by decide +kernel
theorem dX6_mixedWithFile_26 : decode cX6_mixedWithFile 26 = .ok (.lstore 4, 2) := by decide +kernel
theorem dX6_mixedWithFile_28 : decode cX6_mixedWithFile 28 = .ok (.iinc 6 1, 3) := by decide +kernel
theorem dX6_mixedWithFile_31 : decode cX6_mixedWithFile 31 = .ok (.goto (-25), 3) := by decide +kernel
theorem dX6_mixedWithFile_34 : decode cX6_mixedWithFile 34 = .ok (.aload_n 0, 1) := by decide +kernel
theorem dX6_mixedWithFile_35 : decode cX6_mixedWithFile 35 = .ok (.getfield 40, 3) := by decide +kernel
theorem dX6_mixedWithFile_38 : decode cX6_mixedWithFile 38 = .ok (.aload_n 0, 1) := by decide +kernel
theorem dX6_mixedWithFile_39 : decode cX6_mixedWithFile 39 = .ok (.getfield 28, 3) := by decide +kernel
theorem dX6_mixedWithFile_42 : decode cX6_mixedWithFile 42 = .ok (.getfield 90, 3) := by decide +kernel
theorem dX6_mixedWithFile_45 : decode cX6_mixedWithFile 45 = .ok (.iload_n 3, 1) := by decide +kernel
theorem dX6_mixedWithFile_46 : decode cX6_mixedWithFile 46 = .ok (.iconst 2, 1) := by decide +kernel
theorem dX6_mixedWithFile_47 : decode cX6_mixedWithFile 47 = .ok (.invokevirtual 171, 3) := by decide +kernel
theorem dX6_mixedWithFile_50 : decode cX6_mixedWithFile 50 = .ok (.istore 6, 2) := by decide +kernel
theorem dX6_mixedWithFile_52 : decode cX6_mixedWithFile 52 = .ok (.lload 4, 2) := by decide +kernel
theorem dX6_mixedWithFile_54 : decode cX6_mixedWithFile 54 = .ok (.iload 6, 2) := by decide +kernel
theorem dX6_mixedWithFile_56 : decode cX6_mixedWithFile 56 = .ok (.iconst 2, 1) := by decide +kernel
theorem dX6_mixedWithFile_57 : decode cX6_mixedWithFile 57 = .ok (.iconst 0, 1) := by decide +kernel
theorem dX6_mixedWithFile_58 : decode cX6_mixedWithFile 58 = .ok (.invokestatic 175, 3) := by decide +kernel
theorem dX6_mixedWithFile_61 : decode cX6_mixedWithFile 61 = .ok (.i2l, 1) := by decide +kernel
theorem dX6_mixedWithFile_62 : decode cX6_mixedWithFile 62 = .ok (.invokestatic 249, 3) := by decide +kernel
theorem dX6_mixedWithFile_65 : decode cX6_mixedWithFile 65 = .ok (.lstore 4, 2) := by decide +kernel
theorem dX6_mixedWithFile_67 : decode cX6_mixedWithFile 67 = .ok (.lload 4, 2) := by decide +kernel
theorem dX6_mixedWithFile_69 : decode cX6_mixedWithFile 69 = .ok (.iload 6, 2) := by decide +kernel
theorem dX6_mixedWithFile_71 : decode cX6_mixedWithFile 71 = .ok (.iconst 2, 1) := by decide +kernel
theorem dX6_mixedWithFile_72 : decode cX6_mixedWithFile 72 = .ok (.iconst 1, 1) := by decide +kernel
theorem dX6_mixedWithFile_73 : decode cX6_mixedWithFile 73 = .ok (.invokestatic 175, 3) := by decide +kernel
theorem dX6_mixedWithFile_76 : decode cX6_mixedWithFile 76 = .ok (.i2l, 1) := by decide +kernel
theorem dX6_mixedWithFile_77 : decode cX6_mixedWithFile 77 = .ok (.invokestatic 249, 3) := by decide +kernel
theorem dX6_mixedWithFile_80 : decode cX6_mixedWithFile 80 = .ok (.lstore 4, 2) := by decide +kernel
theorem dX6_mixedWithFile_82 : decode cX6_mixedWithFile 82 = .ok (.lload 4, 2) := by decide +kernel
theorem dX6_mixedWithFile_84 : decode cX6_mixedWithFile 84 = .ok (.aload_n 0, 1) := by decide +kernel
theorem dX6_mixedWithFile_85 : decode cX6_mixedWithFile 85 = .ok (.getfield 40, 3) := by decide +kernel
theorem dX6_mixedWithFile_88 : decode cX6_mixedWithFile 88 = .ok (.iload_n 3, 1) := by decide +kernel
theorem dX6_mixedWithFile_89 : decode cX6_mixedWithFile 89 = .ok (.iconst 2, 1) := by decide +kernel
theorem dX6_mixedWithFile_90 : decode cX6_mixedWithFile 90 = .ok (.invokevirtual 179, 3) := by decide +kernel
theorem dX6_mixedWithFile_93 : decode cX6_mixedWithFile 93 = .ok (.i2l, 1) := by decide +kernel
theorem dX6_mixedWithFile_94 : decode cX6_mixedWithFile 94 = .ok (.invokestatic 249, 3) := by decide +kernel
theorem dX6_mixedWithFile_97 : decode cX6_mixedWithFile 97 = .ok (.lreturn, 1) := by decide +kernel
theorem dX6_mixed_0 : decode cX6_mixed 0 = .ok (.ldc2_w 271, 3) := by decide +kernel
theorem dX6_mixed_3 : decode cX6_mixed 3 = .ok (.lload_n 0, 1) := by decide +kernel
theorem dX6_mixed_4 : decode cX6_mixed 4 = .ok (.lmul, 1) := by decide +kernel
theorem dX6_mixed_5 : decode cX6_mixed 5 = .ok (.lload_n 2, 1) := by decide +kernel
theorem dX6_mixed_6 : decode cX6_mixed 6 = .ok (.ladd, 1) := by decide +kernel
theorem dX6_mixed_7 : decode cX6_mixed 7 = .ok (.lreturn, 1) := by decide +kernel
theorem dX6_isLetter_0 : decode cX6_isLetter 0 = .ok (.iload_n 0, 1) := by decide +kernel
theorem dX6_isLetter_1 : decode cX6_isLetter 1 = .ok (.iconst 0, 1) := by decide +kernel
theorem dX6_isLetter_2 : decode cX6_isLetter 2 = .ok (.iconst 5, 1) := by decide +kernel
theorem dX6_isLetter_3 : decode cX6_isLetter 3 = .ok (.invokestatic 83, 3) := by decide +kernel
theorem dX6_isLetter_6 : decode cX6_isLetter 6 = .ok (.ireturn, 1) := by decide +kernel
theorem dX6_within_0 : decode cX6_within 0 = .ok (.iload_n 0, 1) := by decide +kernel
theorem dX6_within_1 : decode cX6_within 1 = .ok (.iload_n 1, 1) := by decide +kernel
theorem dX6_within_2 : decode cX6_within 2 = .ok (.if_icmp .lt 12, 3) := by decide +kernel
theorem dX6_within_5 : decode cX6_within 5 = .ok (.iload_n 0, 1) := by decide +kernel
theorem dX6_within_6 : decode cX6_within 6 = .ok (.iload_n 2, 1) := by decide +kernel
theorem dX6_within_7 : decode cX6_within 7 = .ok (.if_icmp .gt 7, 3) := by decide +kernel
theorem dX6_within_10 : decode cX6_within 10 = .ok (.iconst 1, 1) := by decide +kernel
theorem dX6_within_11 : decode cX6_within 11 = .ok (.goto 4, 3) := by decide +kernel
theorem dX6_within_14 : decode cX6_within 14 = .ok (.iconst 0, 1) := by decide +kernel
theorem dX6_within_15 : decode cX6_within 15 = .ok (.ireturn, 1) := by decide +kernel
theorem dX6_power_0 : decode cX6_power 0 = .ok (.iconst 1, 1) := by decide +kernel
theorem dX6_power_1 : decode cX6_power 1 = .ok (.istore_n 2, 1) := by decide +kernel
theorem dX6_power_2 : decode cX6_power 2 = .ok (.iconst 0, 1) := by decide +kernel
theorem dX6_power_3 : decode cX6_power 3 = .ok (.istore_n 3, 1) := by decide +kernel
theorem dX6_power_4 : decode cX6_power 4 = .ok (.iload_n 3, 1) := by decide +kernel
theorem dX6_power_5 : decode cX6_power 5 = .ok (.iload_n 1, 1) := by decide +kernel
theorem dX6_power_6 : decode cX6_power 6 = .ok (.if_icmp .ge 13, 3) := by decide +kernel
theorem dX6_power_9 : decode cX6_power 9 = .ok (.iload_n 2, 1) := by decide +kernel
theorem dX6_power_10 : decode cX6_power 10 = .ok (.iload_n 0, 1) := by decide +kernel
theorem dX6_power_11 : decode cX6_power 11 = .ok (.imul, 1) := by decide +kernel
theorem dX6_power_12 : decode cX6_power 12 = .ok (.istore_n 2, 1) := by decide +kernel
theorem dX6_power_13 : decode cX6_power 13 = .ok (.iinc 3 1, 3) := by decide +kernel
theorem dX6_power_16 : decode cX6_power 16 = .ok (.goto (-12), 3) := by decide +kernel
theorem dX6_power_19 : decode cX6_power 19 = .ok (.iload_n 2, 1) := by decide +kernel
theorem dX6_power_20 : decode cX6_power 20 = .ok (.ireturn, 1) := by decide +kernel
theorem dX6_inLowestTerms_0 : decode cX6_inLowestTerms 0 = .ok (.iload_n 0, 1) := by decide +kernel
theorem dX6_inLowestTerms_1 : decode cX6_inLowestTerms 1 = .ok (.istore_n 3, 1) := by decide +kernel
theorem dX6_inLowestTerms_2 : decode cX6_inLowestTerms 2 = .ok (.bipush 10, 2) := by decide +kernel
theorem dX6_inLowestTerms_4 : decode cX6_inLowestTerms 4 = .ok (.iload_n 1, 1) := by decide +kernel
theorem dX6_inLowestTerms_5 : decode cX6_inLowestTerms 5 = .ok (.invokestatic 273, 3) := by decide +kernel
theorem dX6_inLowestTerms_8 : decode cX6_inLowestTerms 8 = .ok (.istore 4, 2) := by decide +kernel
theorem dX6_inLowestTerms_10 : decode cX6_inLowestTerms 10 = .ok (.iconst 0, 1) := by decide +kernel
theorem dX6_inLowestTerms_11 : decode cX6_inLowestTerms 11 = .ok (.istore 5, 2) := by decide +kernel
theorem dX6_inLowestTerms_13 : decode cX6_inLowestTerms 13 = .ok (.iload 5, 2) := by decide +kernel
theorem dX6_inLowestTerms_15 : decode cX6_inLowestTerms 15 = .ok (.iload_n 1, 1) := by decide +kernel
theorem dX6_inLowestTerms_16 : decode cX6_inLowestTerms 16 = .ok (.if_icmp .ge 55, 3) := by decide +kernel
theorem dX6_inLowestTerms_19 : decode cX6_inLowestTerms 19 = .ok (.iload_n 3, 1) := by decide +kernel
theorem dX6_inLowestTerms_20 : decode cX6_inLowestTerms 20 = .ok (.iconst 2, 1) := by decide +kernel
theorem dX6_inLowestTerms_21 : decode cX6_inLowestTerms 21 = .ok (.irem, 1) := by decide +kernel
theorem dX6_inLowestTerms_22 : decode cX6_inLowestTerms 22 = .ok (.ifCond .ne 20, 3) := by decide +kernel
theorem dX6_inLowestTerms_25 : decode cX6_inLowestTerms 25 = .ok (.iload 4, 2) := by decide +kernel
theorem dX6_inLowestTerms_27 : decode cX6_inLowestTerms 27 = .ok (.iconst 2, 1) := by decide +kernel
theorem dX6_inLowestTerms_28 : decode cX6_inLowestTerms 28 = .ok (.irem, 1) := by decide +kernel
theorem dX6_inLowestTerms_29 : decode cX6_inLowestTerms 29 = .ok (.ifCond .ne 13, 3) := by decide +kernel
theorem dX6_inLowestTerms_32 : decode cX6_inLowestTerms 32 = .ok (.iload_n 3, 1) := by decide +kernel
theorem dX6_inLowestTerms_33 : decode cX6_inLowestTerms 33 = .ok (.iconst 2, 1) := by decide +kernel
theorem dX6_inLowestTerms_34 : decode cX6_inLowestTerms 34 = .ok (.idiv, 1) := by decide +kernel
theorem dX6_inLowestTerms_35 : decode cX6_inLowestTerms 35 = .ok (.istore_n 3, 1) := by decide +kernel
theorem dX6_inLowestTerms_36 : decode cX6_inLowestTerms 36 = .ok (.iload 4, 2) := by decide +kernel
theorem dX6_inLowestTerms_38 : decode cX6_inLowestTerms 38 = .ok (.iconst 2, 1) := by decide +kernel
theorem dX6_inLowestTerms_39 : decode cX6_inLowestTerms 39 = .ok (.idiv, 1) := by decide +kernel
theorem dX6_inLowestTerms_40 : decode cX6_inLowestTerms 40 = .ok (.istore 4, 2) := by decide +kernel
theorem dX6_inLowestTerms_42 : decode cX6_inLowestTerms 42 = .ok (.iload_n 3, 1) := by decide +kernel
theorem dX6_inLowestTerms_43 : decode cX6_inLowestTerms 43 = .ok (.iconst 5, 1) := by decide +kernel
theorem dX6_inLowestTerms_44 : decode cX6_inLowestTerms 44 = .ok (.irem, 1) := by decide +kernel
theorem dX6_inLowestTerms_45 : decode cX6_inLowestTerms 45 = .ok (.ifCond .ne 20, 3) := by decide +kernel
theorem dX6_inLowestTerms_48 : decode cX6_inLowestTerms 48 = .ok (.iload 4, 2) := by decide +kernel
theorem dX6_inLowestTerms_50 : decode cX6_inLowestTerms 50 = .ok (.iconst 5, 1) := by decide +kernel
theorem dX6_inLowestTerms_51 : decode cX6_inLowestTerms 51 = .ok (.irem, 1) := by decide +kernel
theorem dX6_inLowestTerms_52 : decode cX6_inLowestTerms 52 = .ok (.ifCond .ne 13, 3) := by decide +kernel
theorem dX6_inLowestTerms_55 : decode cX6_inLowestTerms 55 = .ok (.iload_n 3, 1) := by decide +kernel
theorem dX6_inLowestTerms_56 : decode cX6_inLowestTerms 56 = .ok (.iconst 5, 1) := by decide +kernel
theorem dX6_inLowestTerms_57 : decode cX6_inLowestTerms 57 = .ok (.idiv, 1) := by decide +kernel
theorem dX6_inLowestTerms_58 : decode cX6_inLowestTerms 58 = .ok (.istore_n 3, 1) := by decide +kernel
theorem dX6_inLowestTerms_59 : decode cX6_inLowestTerms 59 = .ok (.iload 4, 2) := by decide +kernel
theorem dX6_inLowestTerms_61 : decode cX6_inLowestTerms 61 = .ok (.iconst 5, 1) := by decide +kernel
theorem dX6_inLowestTerms_62 : decode cX6_inLowestTerms 62 = .ok (.idiv, 1) := by decide +kernel
theorem dX6_inLowestTerms_63 : decode cX6_inLowestTerms 63 = .ok (.istore 4, 2) := by decide +kernel
theorem dX6_inLowestTerms_65 : decode cX6_inLowestTerms 65 = .ok (.iinc 5 1, 3) := by decide +kernel
theorem dX6_inLowestTerms_68 : decode cX6_inLowestTerms 68 = .ok (.goto (-55), 3) := by decide +kernel
theorem dX6_inLowestTerms_71 : decode cX6_inLowestTerms 71 = .ok (.iload_n 2, 1) := by decide +kernel
theorem dX6_inLowestTerms_72 : decode cX6_inLowestTerms 72 = .ok (.ifCond .ne 7, 3) := by decide +kernel
theorem dX6_inLowestTerms_75 : decode cX6_inLowestTerms 75 = .ok (.iload_n 3, 1) := by decide +kernel
theorem dX6_inLowestTerms_76 : decode cX6_inLowestTerms 76 = .ok (.goto 5, 3) := by decide +kernel
theorem dX6_inLowestTerms_79 : decode cX6_inLowestTerms 79 = .ok (.iload 4, 2) := by decide +kernel
theorem dX6_inLowestTerms_81 : decode cX6_inLowestTerms 81 = .ok (.ireturn, 1) := by decide +kernel
theorem dX6_nextSeed_0 : decode cX6_nextSeed 0 = .ok (.ldc2_w 276, 3) := by decide +kernel
theorem dX6_nextSeed_3 : decode cX6_nextSeed 3 = .ok (.iload_n 0, 1) := by decide +kernel
theorem dX6_nextSeed_4 : decode cX6_nextSeed 4 = .ok (.i2l, 1) := by decide +kernel
theorem dX6_nextSeed_5 : decode cX6_nextSeed 5 = .ok (.lmul, 1) := by decide +kernel
theorem dX6_nextSeed_6 : decode cX6_nextSeed 6 = .ok (.ldc2_w 278, 3) := by decide +kernel
theorem dX6_nextSeed_9 : decode cX6_nextSeed 9 = .ok (.ladd, 1) := by decide +kernel
theorem dX6_nextSeed_10 : decode cX6_nextSeed 10 = .ok (.ldc2_w 280, 3) := by decide +kernel
theorem dX6_nextSeed_13 : decode cX6_nextSeed 13 = .ok (.land, 1) := by decide +kernel
theorem dX6_nextSeed_14 : decode cX6_nextSeed 14 = .ok (.l2i, 1) := by decide +kernel
theorem dX6_nextSeed_15 : decode cX6_nextSeed 15 = .ok (.ireturn, 1) := by decide +kernel
end
section
theorem dX7_init_0 : decode cX7_init 0 = .ok (.aload_n 0, 1) := by decide +kernel
theorem dX7_init_1 : decode cX7_init 1 = .ok (.invokespecial 1, 3) := by decide +kernel
theorem dX7_init_4 : decode cX7_init 4 = .ok (.aload_n 0, 1) := by decide +kernel
theorem dX7_init_5 : decode cX7_init 5 = .ok (.bipush 10, 2) := by decide +kernel
theorem dX7_init_7 : decode cX7_init 7 = .ok (.newarray .int, 2) := by decide +kernel
theorem dX7_init_9 : decode cX7_init 9 = .ok (.putfield 7, 3) := by decide +kernel
theorem dX7_init_12 : decode cX7_init 12 = .ok (.aload_n 0, 1) := by decide +kernel
theorem dX7_init_13 : decode cX7_init 13 = .ok (.bipush 6, 2) := by decide +kernel
theorem dX7_init_15 : decode cX7_init 15 = .ok (.newarray .int, 2) := by decide +kernel
theorem dX7_init_17 : decode cX7_init 17 = .ok (.putfield 13, 3) := by decide +kernel
theorem dX7_init_20 : decode cX7_init 20 = .ok (.aload_n 0, 1) := by decide +kernel
theorem dX7_init_21 : decode cX7_init 21 = .ok (.bipush 10, 2) := by decide +kernel
theorem dX7_init_23 : decode cX7_init 23 = .ok (.newarray .int, 2) := by decide +kernel
theorem dX7_init_25 : decode cX7_init 25 = .ok (.putfield 16, 3) := by decide +kernel
theorem dX7_init_28 : decode cX7_init 28 = .ok (.aload_n 0, 1) := by decide +kernel
theorem dX7_init_29 : decode cX7_init 29 = .ok (.iconst 5, 1) := by decide +kernel
theorem dX7_init_30 : decode cX7_init 30 = .ok (.newarray .int, 2) := by decide +kernel
theorem dX7_init_32 : decode cX7_init 32 = .ok (.putfield 19, 3) := by decide +kernel
theorem dX7_init_35 : decode cX7_init 35 = .ok (.aload_n 0, 1) := by decide +kernel
theorem dX7_init_36 : decode cX7_init 36 = .ok (.iconst 5, 1) := by decide +kernel
theorem dX7_init_37 : decode cX7_init 37 = .ok (.newarray .int, 2) := by decide +kernel
theorem dX7_init_39 : decode cX7_init 39 = .ok (.putfield 22, 3) := by decide +kernel
theorem dX7_init_42 : decode cX7_init 42 = .ok (.aload_n 0, 1) := by decide +kernel
theorem dX7_init_43 : decode cX7_init 43 = .ok (.iconst 5, 1) := by decide +kernel
theorem dX7_init_44 : decode cX7_init 44 = .ok (.newarray .int, 2) := by decide +kernel
theorem dX7_init_46 : decode cX7_init 46 = .ok (.putfield 25, 3) := by decide +kernel
theorem dX7_init_49 : decode cX7_init 49 = .ok (.aload_n 0, 1) := by decide +kernel
theorem dX7_init_50 : decode cX7_init 50 = .ok (.iconst 5, 1) := by decide +kernel
theorem dX7_init_51 : decode cX7_init 51 = .ok (.newarray .int, 2) := by decide +kernel
theorem dX7_init_53 : decode cX7_init 53 = .ok (.putfield 28, 3) := by decide +kernel
theorem dX7_init_56 : decode cX7_init 56 = .ok (.aload_n 0, 1) := by decide +kernel
theorem dX7_init_57 : decode cX7_init 57 = .ok (.iconst 5, 1) := by decide +kernel
theorem dX7_init_58 : decode cX7_init 58 = .ok (.newarray .int, 2) := by decide +kernel
theorem dX7_init_60 : decode cX7_init 60 = .ok (.putfield 31, 3) := by decide +kernel
theorem dX7_init_63 : decode cX7_init 63 = .ok (.aload_n 0, 1) := by decide +kernel
theorem dX7_init_64 : decode cX7_init 64 = .ok (.iconst 4, 1) := by decide +kernel
theorem dX7_init_65 : decode cX7_init 65 = .ok (.newarray .int, 2) := by decide +kernel
theorem dX7_init_67 : decode cX7_init 67 = .ok (.putfield 34, 3) := by decide +kernel
theorem dX7_init_70 : decode cX7_init 70 = .ok (.aload_n 0, 1) := by decide +kernel
theorem dX7_init_71 : decode cX7_init 71 = .ok (.iconst 5, 1) := by decide +kernel
theorem dX7_init_72 : decode cX7_init 72 = .ok (.newarray .int, 2) := by decide +kernel
theorem dX7_init_74 : decode cX7_init 74 = .ok (.putfield 37, 3) := by decide +kernel
theorem dX7_init_77 : decode cX7_init 77 = .ok (.aload_n 0, 1) := by decide +kernel
theorem dX7_init_78 : decode cX7_init 78 = .ok (.iconst 5, 1) := by decide +kernel
theorem dX7_init_79 : decode cX7_init 79 = .ok (.newarray .int, 2) := by decide +kernel
theorem dX7_init_81 : decode cX7_init 81 = .ok (.putfield 40, 3) := by decide +kernel
theorem dX7_init_84 : decode cX7_init 84 = .ok (.aload_n 0, 1) := by decide +kernel
theorem dX7_init_85 : decode cX7_init 85 = .ok (.bipush 10, 2) := by decide +kernel
theorem dX7_init_87 : decode cX7_init 87 = .ok (.newarray .int, 2) := by decide +kernel
theorem dX7_init_89 : decode cX7_init 89 = .ok (.putfield 43, 3) := by decide +kernel
theorem dX7_init_92 : decode cX7_init 92 = .ok (.aload_n 0, 1) := by decide +kernel
theorem dX7_init_93 : decode cX7_init 93 = .ok (.iconst 5, 1) := by decide +kernel
theorem dX7_init_94 : decode cX7_init 94 = .ok (.newarray .int, 2) := by decide +kernel
theorem dX7_init_96 : decode cX7_init 96 = .ok (.putfield 46, 3) := by decide +kernel
theorem dX7_init_99 : decode cX7_init 99 = .ok (.aload_n 0, 1) := by decide +kernel
theorem dX7_init_100 : decode cX7_init 100 = .ok (.iconst 5, 1) := by decide +kernel
theorem dX7_init_101 : decode cX7_init 101 = .ok (.newarray .int, 2) := by decide +kernel
theorem dX7_init_103 : decode cX7_init 103 = .ok (.putfield 49, 3) := by decide +kernel
theorem dX7_init_106 : decode cX7_init 106 = .ok (.aload_n 0, 1) := by decide +kernel
theorem dX7_init_107 : decode cX7_init 107 = .ok (.iconst 5, 1) := by decide +kernel
theorem dX7_init_108 : decode cX7_init 108 = .ok (.newarray .int, 2) := by decide +kernel
theorem dX7_init_110 : decode cX7_init 110 = .ok (.putfield 52, 3) := by decide +kernel
theorem dX7_init_113 : decode cX7_init 113 = .ok (.aload_n 0, 1) := by decide +kernel
theorem dX7_init_114 : decode cX7_init 114 = .ok (.iconst (-1), 1) := by decide +kernel
theorem dX7_init_115 : decode cX7_init 115 = .ok (.putfield 55, 3) := by decide +kernel
theorem dX7_init_118 : decode cX7_init 118 = .ok (.return_, 1) := by decide +kernel
theorem dX7_in_0 : decode cX7_in 0 = .ok (.lload_n 0, 1) := by decide +kernel
theorem dX7_in_1 : decode cX7_in 1 = .ok (.lload_n 2, 1) := by decide +kernel
theorem dX7_in_2 : decode cX7_in 2 = .ok (.lcmp, 1) := by decide +kernel
theorem dX7_in_3 : decode cX7_in 3 = .ok (.ifCond .lt 14, 3) := by decide +kernel
theorem dX7_in_6 : decode cX7_in 6 = .ok (.lload_n 0, 1) := by decide +kernel
theorem dX7_in_7 : decode cX7_in 7 = .ok (.lload 4, 2) := by decide +kernel
theorem dX7_in_9 : decode cX7_in 9 = .ok (.lcmp, 1) := by decide +kernel
theorem dX7_in_10 : decode cX7_in 10 = .ok (.ifCond .gt 7, 3) := by decide +kernel
theorem dX7_in_13 : decode cX7_in 13 = .ok (.iconst 1, 1) := by decide +kernel
theorem dX7_in_14 : decode cX7_in 14 = .ok (.goto 4, 3) := by decide +kernel
theorem dX7_in_17 : decode cX7_in 17 = .ok (.iconst 0, 1) := by decide +kernel
theorem dX7_in_18 : decode cX7_in 18 = .ok (.ireturn, 1) := by decide +kernel
theorem dX7_ones_0 : decode cX7_ones 0 = .ok (.iconst 0, 1) := by decide +kernel
theorem dX7_ones_1 : decode cX7_ones 1 = .ok (.istore_n 1, 1) := by decide +kernel
theorem dX7_ones_2 : decode cX7_ones 2 = .ok (.iconst 0, 1) := by decide +kernel
theorem dX7_ones_3 : decode cX7_ones 3 = .ok (.istore_n 2, 1) := by decide +kernel
theorem dX7_ones_4 : decode cX7_ones 4 = .ok (.iload_n 2, 1) := by decide +kernel
theorem dX7_ones_5 : decode cX7_ones 5 = .ok (.bipush 6, 2) := by decide +kernel
theorem dX7_ones_7 : decode cX7_ones 7 = .ok (.if_icmp .ge 17, 3) := by decide +kernel
theorem dX7_ones_10 : decode cX7_ones 10 = .ok (.iload_n 1, 1) := by decide +kernel
theorem dX7_ones_11 : decode cX7_ones 11 = .ok (.iload_n 0, 1) := by decide +kernel
theorem dX7_ones_12 : decode cX7_ones 12 = .ok (.iload_n 2, 1) := by decide +kernel
theorem dX7_ones_13 : decode cX7_ones 13 = .ok (.ishr, 1) := by decide +kernel
theorem dX7_ones_14 : decode cX7_ones 14 = .ok (.iconst 1, 1) := by decide +kernel
theorem dX7_ones_15 : decode cX7_ones 15 = .ok (.iand, 1) := by decide +kernel
theorem dX7_ones_16 : decode cX7_ones 16 = .ok (.iadd, 1) := by decide +kernel
theorem dX7_ones_17 : decode cX7_ones 17 = .ok (.istore_n 1, 1) := by decide +kernel
theorem dX7_ones_18 : decode cX7_ones 18 = .ok (.iinc 2 1, 3) := by decide +kernel
theorem dX7_ones_21 : decode cX7_ones 21 = .ok (.goto (-17), 3) := by decide +kernel
theorem dX7_ones_24 : decode cX7_ones 24 = .ok (.iload_n 1, 1) := by decide +kernel
theorem dX7_ones_25 : decode cX7_ones 25 = .ok (.ireturn, 1) := by decide +kernel
theorem dX7_letter_0 : decode cX7_letter 0 = .ok (.iload_n 1, 1) := by decide +kernel
theorem dX7_letter_1 : decode cX7_letter 1 = .ok (.i2l, 1) := by decide +kernel
theorem dX7_letter_2 : decode cX7_letter 2 = .ok (.lconst 1, 1) := by decide +kernel
theorem dX7_letter_3 : decode cX7_letter 3 = .ok (.ldc2_w 59, 3) := by decide +kernel
theorem dX7_letter_6 : decode cX7_letter 6 = .ok (.invokestatic 61, 3) := by decide +kernel
theorem dX7_letter_9 : decode cX7_letter 9 = .ok (.ifCond .ne 6, 3) := by decide +kernel
theorem dX7_letter_12 : decode cX7_letter 12 = .ok (.bipush (-102), 2) := by decide +kernel
theorem dX7_letter_14 : decode cX7_letter 14 = .ok (.ireturn, 1) := by decide +kernel
theorem dX7_letter_15 : decode cX7_letter 15 = .ok (.aload_n 0, 1) := by decide +kernel
theorem dX7_letter_16 : decode cX7_letter 16 = .ok (.getfield 65, 3) := by decide +kernel
theorem dX7_letter_19 : decode cX7_letter 19 = .ok (.bipush 10, 2) := by decide +kernel
theorem dX7_letter_21 : decode cX7_letter 21 = .ok (.if_icmp .ne 6, 3) := by decide +kernel
theorem dX7_letter_24 : decode cX7_letter 24 = .ok (.bipush (-104), 2) := by decide +kernel
theorem dX7_letter_26 : decode cX7_letter 26 = .ok (.ireturn, 1) := by decide +kernel
theorem dX7_letter_27 : decode cX7_letter 27 = .ok (.aload_n 0, 1) := by decide +kernel
theorem dX7_letter_28 : decode cX7_letter 28 = .ok (.getfield 7, 3) := by decide +kernel
theorem dX7_letter_31 : decode cX7_letter 31 = .ok (.aload_n 0, 1) := by decide +kernel
theorem dX7_letter_32 : decode cX7_letter 32 = .ok (.getfield 65, 3) := by decide +kernel
theorem dX7_letter_35 : decode cX7_letter 35 = .ok (.iload_n 1, 1) := by decide +kernel
theorem dX7_letter_36 : decode cX7_letter 36 = .ok (.iastore, 1) := by decide +kernel
theorem dX7_letter_37 : decode cX7_letter 37 = .ok (.aload_n 0, 1) := by decide +kernel
theorem dX7_letter_38 : decode cX7_letter 38 = .ok (.dup, 1) := by decide +kernel
theorem dX7_letter_39 : decode cX7_letter 39 = .ok (.getfield 65, 3) := by decide +kernel
theorem dX7_letter_42 : decode cX7_letter 42 = .ok (.iconst 1, 1) := by decide +kernel
theorem dX7_letter_43 : decode cX7_letter 43 = .ok (.iadd, 1) := by decide +kernel
theorem dX7_letter_44 : decode cX7_letter 44 = .ok (.putfield 65, 3) := by decide +kernel
theorem dX7_letter_47 : decode cX7_letter 47 = .ok (.aload_n 0, 1) := by decide +kernel
theorem dX7_letter_48 : decode cX7_letter 48 = .ok (.getfield 65, 3) := by decide +kernel
theorem dX7_letter_51 : decode cX7_letter 51 = .ok (.ireturn, 1) := by decide +kernel
theorem dX7_blank_0 : decode cX7_blank 0 = .ok (.aload_n 0, 1) := by decide +kernel
theorem dX7_blank_1 : decode cX7_blank 1 = .ok (.getfield 65, 3) := by decide +kernel
theorem dX7_blank_4 : decode cX7_blank 4 = .ok (.istore_n 1, 1) := by decide +kernel
theorem dX7_blank_5 : decode cX7_blank 5 = .ok (.aload_n 0, 1) := by decide +kernel
theorem dX7_blank_6 : decode cX7_blank 6 = .ok (.iconst 0, 1) := by decide +kernel
theorem dX7_blank_7 : decode cX7_blank 7 = .ok (.putfield 65, 3) := by decide +kernel
theorem dX7_blank_10 : decode cX7_blank 10 = .ok (.iload_n 1, 1) := by decide +kernel
theorem dX7_blank_11 : decode cX7_blank 11 = .ok (.ireturn, 1) := by decide +kernel
theorem dX7_isGood_0 : decode cX7_isGood 0 = .ok (.iload_n 1, 1) := by decide +kernel
theorem dX7_isGood_1 : decode cX7_isGood 1 = .ok (.bipush 48, 2) := by decide +kernel
theorem dX7_isGood_3 : decode cX7_isGood 3 = .ok (.isub, 1) := by decide +kernel
theorem dX7_isGood_4 : decode cX7_isGood 4 = .ok (.istore_n 3, 1) := by decide +kernel
theorem dX7_isGood_5 : decode cX7_isGood 5 = .ok (.iload_n 0, 1) := by decide +kernel
theorem dX7_isGood_6 : decode cX7_isGood 6 = .ok (.bipush 6, 2) := by decide +kernel
theorem dX7_isGood_8 : decode cX7_isGood 8 = .ok (.if_icmp .ge 42, 3) := by decide +kernel
theorem dX7_isGood_11 : decode cX7_isGood 11 = .ok (.iload_n 3, 1) := by decide +kernel
theorem dX7_isGood_12 : decode cX7_isGood 12 = .ok (.i2l, 1) := by decide +kernel
theorem dX7_isGood_13 : decode cX7_isGood 13 = .ok (.lconst 0, 1) := by decide +kernel
theorem dX7_isGood_14 : decode cX7_isGood 14 = .ok (.ldc2_w 68, 3) := by decide +kernel
theorem dX7_isGood_17 : decode cX7_isGood 17 = .ok (.invokestatic 61, 3) := by decide +kernel
theorem dX7_isGood_20 : decode cX7_isGood 20 = .ok (.ifCond .eq 28, 3) := by decide +kernel
theorem dX7_isGood_23 : decode cX7_isGood 23 = .ok (.iload_n 2, 1) := by decide +kernel
theorem dX7_isGood_24 : decode cX7_isGood 24 = .ok (.iload_n 3, 1) := by decide +kernel
theorem dX7_isGood_25 : decode cX7_isGood 25 = .ok (.iadd, 1) := by decide +kernel
theorem dX7_isGood_26 : decode cX7_isGood 26 = .ok (.bipush 10, 2) := by decide +kernel
theorem dX7_isGood_28 : decode cX7_isGood 28 = .ok (.if_icmp .gt 20, 3) := by decide +kernel
theorem dX7_isGood_31 : decode cX7_isGood 31 = .ok (.iload_n 0, 1) := by decide +kernel
theorem dX7_isGood_32 : decode cX7_isGood 32 = .ok (.iconst 5, 1) := by decide +kernel
theorem dX7_isGood_33 : decode cX7_isGood 33 = .ok (.if_icmp .lt 11, 3) := by decide +kernel
theorem dX7_isGood_36 : decode cX7_isGood 36 = .ok (.iload_n 2, 1) := by decide +kernel
theorem dX7_isGood_37 : decode cX7_isGood 37 = .ok (.iload_n 3, 1) := by decide +kernel
theorem dX7_isGood_38 : decode cX7_isGood 38 = .ok (.iadd, 1) := by decide +kernel
theorem dX7_isGood_39 : decode cX7_isGood 39 = .ok (.bipush 10, 2) := by decide +kernel
theorem dX7_isGood_41 : decode cX7_isGood 41 = .ok (.if_icmp .ne 7, 3) := by decide +kernel
theorem dX7_isGood_44 : decode cX7_isGood 44 = .ok (.iconst 1, 1) := by decide +kernel
theorem dX7_isGood_45 : decode cX7_isGood 45 = .ok (.goto 4, 3) := by decide +kernel
theorem dX7_isGood_48 : decode cX7_isGood 48 = .ok (.iconst 0, 1) := by decide +kernel
theorem dX7_isGood_49 : decode cX7_isGood 49 = .ok (.ireturn, 1) := by decide +kernel
theorem dX7_isGood_50 : decode cX7_isGood 50 = .ok (.iload_n 0, 1) := by decide +kernel
theorem dX7_isGood_51 : decode cX7_isGood 51 = .ok (.bipush 6, 2) := by decide +kernel
theorem dX7_isGood_53 : decode cX7_isGood 53 = .ok (.if_icmp .ne 17, 3) := by decide +kernel
theorem dX7_isGood_56 : decode cX7_isGood 56 = .ok (.iload_n 1, 1) := by decide +kernel
theorem dX7_isGood_57 : decode cX7_isGood 57 = .ok (.bipush 59, 2) := by decide +kernel
theorem dX7_isGood_59 : decode cX7_isGood 59 = .ok (.if_icmp .ne 7, 3) := by decide +kernel
theorem dX7_isGood_62 : decode cX7_isGood 62 = .ok (.iconst 1, 1) := by decide +kernel
theorem dX7_isGood_63 : decode cX7_isGood 63 = .ok (.goto 30, 3) := by decide +kernel
theorem dX7_isGood_66 : decode cX7_isGood 66 = .ok (.iconst 0, 1) := by decide +kernel
theorem dX7_isGood_67 : decode cX7_isGood 67 = .ok (.goto 26, 3) := by decide +kernel
theorem dX7_isGood_70 : decode cX7_isGood 70 = .ok (.iload_n 0, 1) := by decide +kernel
theorem dX7_isGood_71 : decode cX7_isGood 71 = .ok (.bipush 7, 2) := by decide +kernel
theorem dX7_isGood_73 : decode cX7_isGood 73 = .ok (.if_icmp .ne 19, 3) := by decide +kernel
theorem dX7_isGood_76 : decode cX7_isGood 76 = .ok (.iload_n 3, 1) := by decide +kernel
theorem dX7_isGood_77 : decode cX7_isGood 77 = .ok (.i2l, 1) := by decide +kernel
theorem dX7_isGood_78 : decode cX7_isGood 78 = .ok (.lconst 1, 1) := by decide +kernel
theorem dX7_isGood_79 : decode cX7_isGood 79 = .ok (.ldc2_w 68, 3) := by decide +kernel
theorem dX7_isGood_82 : decode cX7_isGood 82 = .ok (.invokestatic 61, 3) := by decide +kernel
theorem dX7_isGood_85 : decode cX7_isGood 85 = .ok (.ifCond .eq 7, 3) := by decide +kernel
theorem dX7_isGood_88 : decode cX7_isGood 88 = .ok (.iconst 1, 1) := by decide +kernel
theorem dX7_isGood_89 : decode cX7_isGood 89 = .ok (.goto 4, 3) := by decide +kernel
theorem dX7_isGood_92 : decode cX7_isGood 92 = .ok (.iconst 0, 1) := by decide +kernel
theorem dX7_isGood_93 : decode cX7_isGood 93 = .ok (.ireturn, 1) := by decide +kernel
theorem dX7_faultOf_0 : decode cX7_faultOf 0 = .ok (.iconst 0, 1) := by decide +kernel
theorem dX7_faultOf_1 : decode cX7_faultOf 1 = .ok (.istore_n 1, 1) := by decide +kernel
theorem dX7_faultOf_2 : decode cX7_faultOf 2 = .ok (.iconst 0, 1) := by decide +kernel
theorem dX7_faultOf_3 : decode cX7_faultOf 3 = .ok (.istore_n 2, 1) := by decide +kernel
theorem dX7_faultOf_4 : decode cX7_faultOf 4 = .ok (.iload_n 2, 1) := by decide +kernel
theorem dX7_faultOf_5 : decode cX7_faultOf 5 = .ok (.aload_n 0, 1) := by decide +kernel
theorem dX7_faultOf_6 : decode cX7_faultOf 6 = .ok (.getfield 65, 3) := by decide +kernel
theorem dX7_faultOf_9 : decode cX7_faultOf 9 = .ok (.if_icmp .ge 45, 3) := by decide +kernel
theorem dX7_faultOf_12 : decode cX7_faultOf 12 = .ok (.iload_n 2, 1) := by decide +kernel
theorem dX7_faultOf_13 : decode cX7_faultOf 13 = .ok (.aload_n 0, 1) := by decide +kernel
theorem dX7_faultOf_14 : decode cX7_faultOf 14 = .ok (.getfield 7, 3) := by decide +kernel
theorem dX7_faultOf_17 : decode cX7_faultOf 17 = .ok (.iload_n 2, 1) := by decide +kernel
theorem dX7_faultOf_18 : decode cX7_faultOf 18 = .ok (.iaload, 1) := by decide +kernel
theorem dX7_faultOf_19 : decode cX7_faultOf 19 = .ok (.iload_n 1, 1) := by decide +kernel
theorem dX7_faultOf_20 : decode cX7_faultOf 20 = .ok (.invokestatic 70, 3) := by decide +kernel
theorem dX7_faultOf_23 : decode cX7_faultOf 23 = .ok (.ifCond .eq 31, 3) := by decide +kernel
theorem dX7_faultOf_26 : decode cX7_faultOf 26 = .ok (.iload_n 1, 1) := by decide +kernel
theorem dX7_faultOf_27 : decode cX7_faultOf 27 = .ok (.iload_n 2, 1) := by decide +kernel
theorem dX7_faultOf_28 : decode cX7_faultOf 28 = .ok (.bipush 6, 2) := by decide +kernel
theorem dX7_faultOf_30 : decode cX7_faultOf 30 = .ok (.if_icmp .ge 15, 3) := by decide +kernel
theorem dX7_faultOf_33 : decode cX7_faultOf 33 = .ok (.aload_n 0, 1) := by decide +kernel
theorem dX7_faultOf_34 : decode cX7_faultOf 34 = .ok (.getfield 7, 3) := by decide +kernel
theorem dX7_faultOf_37 : decode cX7_faultOf 37 = .ok (.iload_n 2, 1) := by decide +kernel
theorem dX7_faultOf_38 : decode cX7_faultOf 38 = .ok (.iaload, 1) := by decide +kernel
theorem dX7_faultOf_39 : decode cX7_faultOf 39 = .ok (.bipush 48, 2) := by decide +kernel
theorem dX7_faultOf_41 : decode cX7_faultOf 41 = .ok (.isub, 1) := by decide +kernel
theorem dX7_faultOf_42 : decode cX7_faultOf 42 = .ok (.goto 4, 3) := by decide +kernel
theorem dX7_faultOf_45 : decode cX7_faultOf 45 = .ok (.iconst 0, 1) := by decide +kernel
theorem dX7_faultOf_46 : decode cX7_faultOf 46 = .ok (.iadd, 1) := by decide +kernel
theorem dX7_faultOf_47 : decode cX7_faultOf 47 = .ok (.istore_n 1, 1) := by decide +kernel
theorem dX7_faultOf_48 : decode cX7_faultOf 48 = .ok (.iinc 2 1, 3) := by decide +kernel
theorem dX7_faultOf_51 : decode cX7_faultOf 51 = .ok (.goto (-47), 3) := by decide +kernel
theorem dX7_faultOf_54 : decode cX7_faultOf 54 = .ok (.iload_n 2, 1) := by decide +kernel
theorem dX7_faultOf_55 : decode cX7_faultOf 55 = .ok (.ireturn, 1) := by decide +kernel
theorem dX7_fault_0 : decode cX7_fault 0 = .ok (.aload_n 0, 1) := by decide +kernel
theorem dX7_fault_1 : decode cX7_fault 1 = .ok (.invokevirtual 74, 3) := by decide +kernel
theorem dX7_fault_4 : decode cX7_fault 4 = .ok (.ireturn, 1) := by decide +kernel
theorem dX7_law_0 : decode cX7_law 0 = .ok (.aload_n 0, 1) := by decide +kernel
theorem dX7_law_1 : decode cX7_law 1 = .ok (.getfield 65, 3) := by decide +kernel
theorem dX7_law_4 : decode cX7_law 4 = .ok (.bipush 8, 2) := by decide +kernel
theorem dX7_law_6 : decode cX7_law 6 = .ok (.if_icmp .ne 12, 3) := by decide +kernel
theorem dX7_law_9 : decode cX7_law 9 = .ok (.aload_n 0, 1) := by decide +kernel
theorem dX7_law_10 : decode cX7_law 10 = .ok (.invokevirtual 74, 3) := by decide +kernel
theorem dX7_law_13 : decode cX7_law 13 = .ok (.bipush 8, 2) := by decide +kernel
theorem dX7_law_15 : decode cX7_law 15 = .ok (.if_icmp .ge 6, 3) := by decide +kernel
theorem dX7_law_18 : decode cX7_law 18 = .ok (.bipush (-103), 2) := by decide +kernel
theorem dX7_law_20 : decode cX7_law 20 = .ok (.ireturn, 1) := by decide +kernel
theorem dX7_law_21 : decode cX7_law 21 = .ok (.iconst 0, 1) := by decide +kernel
theorem dX7_law_22 : decode cX7_law 22 = .ok (.istore_n 1, 1) := by decide +kernel
theorem dX7_law_23 : decode cX7_law 23 = .ok (.iload_n 1, 1) := by decide +kernel
theorem dX7_law_24 : decode cX7_law 24 = .ok (.bipush 6, 2) := by decide +kernel
theorem dX7_law_26 : decode cX7_law 26 = .ok (.if_icmp .ge 24, 3) := by decide +kernel
theorem dX7_law_29 : decode cX7_law 29 = .ok (.aload_n 0, 1) := by decide +kernel
theorem dX7_law_30 : decode cX7_law 30 = .ok (.getfield 13, 3) := by decide +kernel
theorem dX7_law_33 : decode cX7_law 33 = .ok (.iload_n 1, 1) := by decide +kernel
theorem dX7_law_34 : decode cX7_law 34 = .ok (.aload_n 0, 1) := by decide +kernel
theorem dX7_law_35 : decode cX7_law 35 = .ok (.getfield 7, 3) := by decide +kernel
theorem dX7_law_38 : decode cX7_law 38 = .ok (.iload_n 1, 1) := by decide +kernel
theorem dX7_law_39 : decode cX7_law 39 = .ok (.iaload, 1) := by decide +kernel
theorem dX7_law_40 : decode cX7_law 40 = .ok (.bipush 48, 2) := by decide +kernel
theorem dX7_law_42 : decode cX7_law 42 = .ok (.isub, 1) := by decide +kernel
theorem dX7_law_43 : decode cX7_law 43 = .ok (.iastore, 1) := by decide +kernel
theorem dX7_law_44 : decode cX7_law 44 = .ok (.iinc 1 1, 3) := by decide +kernel
theorem dX7_law_47 : decode cX7_law 47 = .ok (.goto (-24), 3) := by decide +kernel
theorem dX7_law_50 : decode cX7_law 50 = .ok (.aload_n 0, 1) := by decide +kernel
theorem dX7_law_51 : decode cX7_law 51 = .ok (.aload_n 0, 1) := by decide +kernel
theorem dX7_law_52 : decode cX7_law 52 = .ok (.getfield 7, 3) := by decide +kernel
theorem dX7_law_55 : decode cX7_law 55 = .ok (.bipush 7, 2) := by decide +kernel
theorem dX7_law_57 : decode cX7_law 57 = .ok (.iaload, 1) := by decide +kernel
theorem dX7_law_58 : decode cX7_law 58 = .ok (.bipush 48, 2) := by decide +kernel
theorem dX7_law_60 : decode cX7_law 60 = .ok (.isub, 1) := by decide +kernel
theorem dX7_law_61 : decode cX7_law 61 = .ok (.putfield 78, 3) := by decide +kernel
theorem dX7_law_64 : decode cX7_law 64 = .ok (.aload_n 0, 1) := by decide +kernel
theorem dX7_law_65 : decode cX7_law 65 = .ok (.iconst 0, 1) := by decide +kernel
theorem dX7_law_66 : decode cX7_law 66 = .ok (.putfield 81, 3) := by decide +kernel
theorem dX7_law_69 : decode cX7_law 69 = .ok (.aload_n 0, 1) := by decide +kernel
theorem dX7_law_70 : decode cX7_law 70 = .ok (.iconst 0, 1) := by decide +kernel
theorem dX7_law_71 : decode cX7_law 71 = .ok (.putfield 84, 3) := by decide +kernel
theorem dX7_law_74 : decode cX7_law 74 = .ok (.aload_n 0, 1) := by decide +kernel
theorem dX7_law_75 : decode cX7_law 75 = .ok (.iconst 0, 1) := by decide +kernel
theorem dX7_law_76 : decode cX7_law 76 = .ok (.putfield 87, 3) := by decide +kernel
theorem dX7_law_79 : decode cX7_law 79 = .ok (.aload_n 0, 1) := by decide +kernel
theorem dX7_law_80 : decode cX7_law 80 = .ok (.dup, 1) := by decide +kernel
theorem dX7_law_81 : decode cX7_law 81 = .ok (.getfield 90, 3) := by decide +kernel
theorem dX7_law_84 : decode cX7_law 84 = .ok (.iconst 1, 1) := by decide +kernel
theorem dX7_law_85 : decode cX7_law 85 = .ok (.iadd, 1) := by decide +kernel
theorem dX7_law_86 : decode cX7_law 86 = .ok (.putfield 90, 3) := by decide +kernel
theorem dX7_law_89 : decode cX7_law 89 = .ok (.aload_n 0, 1) := by decide +kernel
theorem dX7_law_90 : decode cX7_law 90 = .ok (.iconst 0, 1) := by decide +kernel
theorem dX7_law_91 : decode cX7_law 91 = .ok (.putfield 65, 3) := by decide +kernel
theorem dX7_law_94 : decode cX7_law 94 = .ok (.aload_n 0, 1) := by decide +kernel
theorem dX7_law_95 : decode cX7_law 95 = .ok (.getfield 78, 3) := by decide +kernel
theorem dX7_law_98 : decode cX7_law 98 = .ok (.ireturn, 1) := by decide +kernel
theorem dX7_lacks_0 : decode cX7_lacks 0 = .ok (.aload_n 0, 1) := by decide +kernel
theorem dX7_lacks_1 : decode cX7_lacks 1 = .ok (.getfield 78, 3) := by decide +kernel
theorem dX7_lacks_4 : decode cX7_lacks 4 = .ok (.ifCond .ne 7, 3) := by decide +kernel
theorem dX7_lacks_7 : decode cX7_lacks 7 = .ok (.iconst 1, 1) := by decide +kernel
theorem dX7_lacks_8 : decode cX7_lacks 8 = .ok (.goto 4, 3) := by decide +kernel
theorem dX7_lacks_11 : decode cX7_lacks 11 = .ok (.iconst 0, 1) := by decide +kernel
theorem dX7_lacks_12 : decode cX7_lacks 12 = .ok (.ireturn, 1) := by decide +kernel
theorem dX7_isLetter_0 : decode cX7_isLetter 0 = .ok (.iload_n 0, 1) := by decide +kernel
theorem dX7_isLetter_1 : decode cX7_isLetter 1 = .ok (.i2l, 1) := by decide +kernel
theorem dX7_isLetter_2 : decode cX7_isLetter 2 = .ok (.lconst 0, 1) := by decide +kernel
theorem dX7_isLetter_3 : decode cX7_isLetter 3 = .ok (.ldc2_w 93, 3) := by decide +kernel
theorem dX7_isLetter_6 : decode cX7_isLetter 6 = .ok (.invokestatic 61, 3) := by decide +kernel
theorem dX7_isLetter_9 : decode cX7_isLetter 9 = .ok (.ireturn, 1) := by decide +kernel
theorem dX7_isFile_0 : decode cX7_isFile 0 = .ok (.iload_n 1, 1) := by decide +kernel
theorem dX7_isFile_1 : decode cX7_isFile 1 = .ok (.i2l, 1) := by decide +kernel
theorem dX7_isFile_2 : decode cX7_isFile 2 = .ok (.lconst 0, 1) := by decide +kernel
theorem dX7_isFile_3 : decode cX7_isFile 3 = .ok (.aload_n 0, 1) := by decide +kernel
theorem dX7_isFile_4 : decode cX7_isFile 4 = .ok (.getfield 81, 3) := by decide +kernel
theorem dX7_isFile_7 : decode cX7_isFile 7 = .ok (.iconst 1, 1) := by decide +kernel
theorem dX7_isFile_8 : decode cX7_isFile 8 = .ok (.isub, 1) := by decide +kernel
theorem dX7_isFile_9 : decode cX7_isFile 9 = .ok (.i2l, 1) := by decide +kernel
theorem dX7_isFile_10 : decode cX7_isFile 10 = .ok (.invokestatic 61, 3) := by decide +kernel
theorem dX7_isFile_13 : decode cX7_isFile 13 = .ok (.ireturn, 1) := by decide +kernel
theorem dX7_fullness_0 : decode cX7_fullness 0 = .ok (.iconst 0, 1) := by decide +kernel
theorem dX7_fullness_1 : decode cX7_fullness 1 = .ok (.istore_n 3, 1) := by decide +kernel
theorem dX7_fullness_2 : decode cX7_fullness 2 = .ok (.iconst 0, 1) := by decide +kernel
theorem dX7_fullness_3 : decode cX7_fullness 3 = .ok (.istore 4, 2) := by decide +kernel
theorem dX7_fullness_5 : decode cX7_fullness 5 = .ok (.iload 4, 2) := by decide +kernel
theorem dX7_fullness_7 : decode cX7_fullness 7 = .ok (.aload_n 0, 1) := by decide +kernel
theorem dX7_fullness_8 : decode cX7_fullness 8 = .ok (.getfield 81, 3) := by decide +kernel
theorem dX7_fullness_11 : decode cX7_fullness 11 = .ok (.if_icmp .ge 20, 3) := by decide +kernel
theorem dX7_fullness_14 : decode cX7_fullness 14 = .ok (.iload_n 3, 1) := by decide +kernel
theorem dX7_fullness_15 : decode cX7_fullness 15 = .ok (.aload_n 1, 1) := by decide +kernel
theorem dX7_fullness_16 : decode cX7_fullness 16 = .ok (.iload 4, 2) := by decide +kernel
theorem dX7_fullness_18 : decode cX7_fullness 18 = .ok (.iaload, 1) := by decide +kernel
theorem dX7_fullness_19 : decode cX7_fullness 19 = .ok (.iload_n 2, 1) := by decide +kernel
theorem dX7_fullness_20 : decode cX7_fullness 20 = .ok (.ishr, 1) := by decide +kernel
theorem dX7_fullness_21 : decode cX7_fullness 21 = .ok (.iconst 1, 1) := by decide +kernel
theorem dX7_fullness_22 : decode cX7_fullness 22 = .ok (.iand, 1) := by decide +kernel
theorem dX7_fullness_23 : decode cX7_fullness 23 = .ok (.iadd, 1) := by decide +kernel
theorem dX7_fullness_24 : decode cX7_fullness 24 = .ok (.istore_n 3, 1) := by decide +kernel
theorem dX7_fullness_25 : decode cX7_fullness 25 = .ok (.iinc 4 1, 3) := by decide +kernel
theorem dX7_fullness_28 : decode cX7_fullness 28 = .ok (.goto (-23), 3) := by decide +kernel
theorem dX7_fullness_31 : decode cX7_fullness 31 = .ok (.iload_n 3, 1) := by decide +kernel
theorem dX7_fullness_32 : decode cX7_fullness 32 = .ok (.ireturn, 1) := by decide +kernel
theorem dX7_tellUnder_0 : decode cX7_tellUnder 0 = .ok (.iload_n 2, 1) := by decide +kernel
theorem dX7_tellUnder_1 : decode cX7_tellUnder 1 = .ok (.ifCond .ne 12, 3) := by decide +kernel
theorem dX7_tellUnder_4 : decode cX7_tellUnder 4 = .ok (.aload_n 0, 1) := by decide +kernel
theorem dX7_tellUnder_5 : decode cX7_tellUnder 5 = .ok (.getfield 13, 3) := by decide +kernel
theorem dX7_tellUnder_8 : decode cX7_tellUnder 8 = .ok (.iload_n 1, 1) := by decide +kernel
theorem dX7_tellUnder_9 : decode cX7_tellUnder 9 = .ok (.iaload, 1) := by decide +kernel
theorem dX7_tellUnder_10 : decode cX7_tellUnder 10 = .ok (.goto 12, 3) := by decide +kernel
theorem dX7_tellUnder_13 : decode cX7_tellUnder 13 = .ok (.aload_n 0, 1) := by decide +kernel
theorem dX7_tellUnder_14 : decode cX7_tellUnder 14 = .ok (.aload_n 0, 1) := by decide +kernel
theorem dX7_tellUnder_15 : decode cX7_tellUnder 15 = .ok (.getfield 19, 3) := by decide +kernel
theorem dX7_tellUnder_18 : decode cX7_tellUnder 18 = .ok (.iload_n 1, 1) := by decide +kernel
theorem dX7_tellUnder_19 : decode cX7_tellUnder 19 = .ok (.invokevirtual 95, 3) := by decide +kernel
theorem dX7_tellUnder_22 : decode cX7_tellUnder 22 = .ok (.ireturn, 1) := by decide +kernel
theorem dX7_under_0 : decode cX7_under 0 = .ok (.iload_n 1, 1) := by decide +kernel
theorem dX7_under_1 : decode cX7_under 1 = .ok (.invokestatic 99, 3) := by decide +kernel
theorem dX7_under_4 : decode cX7_under 4 = .ok (.ifCond .ne 6, 3) := by decide +kernel
theorem dX7_under_7 : decode cX7_under 7 = .ok (.bipush (-101), 2) := by decide +kernel
theorem dX7_under_9 : decode cX7_under 9 = .ok (.ireturn, 1) := by decide +kernel
theorem dX7_under_10 : decode cX7_under 10 = .ok (.iload_n 2, 1) := by decide +kernel
theorem dX7_under_11 : decode cX7_under 11 = .ok (.i2l, 1) := by decide +kernel
theorem dX7_under_12 : decode cX7_under 12 = .ok (.lconst 0, 1) := by decide +kernel
theorem dX7_under_13 : decode cX7_under 13 = .ok (.lconst 1, 1) := by decide +kernel
theorem dX7_under_14 : decode cX7_under 14 = .ok (.invokestatic 61, 3) := by decide +kernel
theorem dX7_under_17 : decode cX7_under 17 = .ok (.ifCond .eq 12, 3) := by decide +kernel
theorem dX7_under_20 : decode cX7_under 20 = .ok (.aload_n 0, 1) := by decide +kernel
theorem dX7_under_21 : decode cX7_under 21 = .ok (.iload_n 1, 1) := by decide +kernel
theorem dX7_under_22 : decode cX7_under 22 = .ok (.iload_n 2, 1) := by decide +kernel
theorem dX7_under_23 : decode cX7_under 23 = .ok (.invokevirtual 103, 3) := by decide +kernel
theorem dX7_under_26 : decode cX7_under 26 = .ok (.goto 5, 3) := by decide +kernel
theorem dX7_under_29 : decode cX7_under 29 = .ok (.bipush (-102), 2) := by decide +kernel
theorem dX7_under_31 : decode cX7_under 31 = .ok (.ireturn, 1) := by decide +kernel
theorem dX7_file_0 : decode cX7_file 0 = .ok (.iload_n 1, 1) := by decide +kernel
theorem dX7_file_1 : decode cX7_file 1 = .ok (.i2l, 1) := by decide +kernel
theorem dX7_file_2 : decode cX7_file 2 = .ok (.lconst 0, 1) := by decide +kernel
theorem dX7_file_3 : decode cX7_file 3 = .ok (.ldc2_w 107, 3) := by decide +kernel
theorem dX7_file_6 : decode cX7_file 6 = .ok (.invokestatic 61, 3) := by decide +kernel
theorem dX7_file_9 : decode cX7_file 9 = .ok (.ifCond .ne 6, 3) := by decide +kernel
theorem dX7_file_12 : decode cX7_file 12 = .ok (.bipush (-102), 2) := by decide +kernel
theorem dX7_file_14 : decode cX7_file 14 = .ok (.ireturn, 1) := by decide +kernel
theorem dX7_file_15 : decode cX7_file 15 = .ok (.iload_n 2, 1) := by decide +kernel
theorem dX7_file_16 : decode cX7_file 16 = .ok (.invokestatic 99, 3) := by decide +kernel
theorem dX7_file_19 : decode cX7_file 19 = .ok (.ifCond .ne 6, 3) := by decide +kernel
theorem dX7_file_22 : decode cX7_file 22 = .ok (.bipush (-101), 2) := by decide +kernel
theorem dX7_file_24 : decode cX7_file 24 = .ok (.ireturn, 1) := by decide +kernel
theorem dX7_file_25 : decode cX7_file 25 = .ok (.aload_n 0, 1) := by decide +kernel
theorem dX7_file_26 : decode cX7_file 26 = .ok (.invokevirtual 109, 3) := by decide +kernel
theorem dX7_file_29 : decode cX7_file 29 = .ok (.ifCond .ne 19, 3) := by decide +kernel
theorem dX7_file_32 : decode cX7_file 32 = .ok (.aload_n 0, 1) := by decide +kernel
theorem dX7_file_33 : decode cX7_file 33 = .ok (.aload_n 0, 1) := by decide +kernel
theorem dX7_file_34 : decode cX7_file 34 = .ok (.getfield 19, 3) := by decide +kernel
theorem dX7_file_37 : decode cX7_file 37 = .ok (.iload_n 2, 1) := by decide +kernel
theorem dX7_file_38 : decode cX7_file 38 = .ok (.invokevirtual 95, 3) := by decide +kernel
theorem dX7_file_41 : decode cX7_file 41 = .ok (.aload_n 0, 1) := by decide +kernel
theorem dX7_file_42 : decode cX7_file 42 = .ok (.getfield 78, 3) := by decide +kernel
theorem dX7_file_45 : decode cX7_file 45 = .ok (.if_icmp .lt 6, 3) := by decide +kernel
theorem dX7_file_48 : decode cX7_file 48 = .ok (.bipush (-103), 2) := by decide +kernel
theorem dX7_file_50 : decode cX7_file 50 = .ok (.ireturn, 1) := by decide +kernel
theorem dX7_file_51 : decode cX7_file 51 = .ok (.aload_n 0, 1) := by decide +kernel
theorem dX7_file_52 : decode cX7_file 52 = .ok (.getfield 81, 3) := by decide +kernel
theorem dX7_file_55 : decode cX7_file 55 = .ok (.iconst 5, 1) := by decide +kernel
theorem dX7_file_56 : decode cX7_file 56 = .ok (.if_icmp .ne 6, 3) := by decide +kernel
theorem dX7_file_59 : decode cX7_file 59 = .ok (.bipush (-104), 2) := by decide +kernel
theorem dX7_file_61 : decode cX7_file 61 = .ok (.ireturn, 1) := by decide +kernel
theorem dX7_file_62 : decode cX7_file 62 = .ok (.aload_n 0, 1) := by decide +kernel
theorem dX7_file_63 : decode cX7_file 63 = .ok (.getfield 16, 3) := by decide +kernel
theorem dX7_file_66 : decode cX7_file 66 = .ok (.iconst 2, 1) := by decide +kernel
theorem dX7_file_67 : decode cX7_file 67 = .ok (.aload_n 0, 1) := by decide +kernel
theorem dX7_file_68 : decode cX7_file 68 = .ok (.getfield 81, 3) := by decide +kernel
theorem dX7_file_71 : decode cX7_file 71 = .ok (.imul, 1) := by decide +kernel
theorem dX7_file_72 : decode cX7_file 72 = .ok (.iload_n 1, 1) := by decide +kernel
theorem dX7_file_73 : decode cX7_file 73 = .ok (.iastore, 1) := by decide +kernel
theorem dX7_file_74 : decode cX7_file 74 = .ok (.aload_n 0, 1) := by decide +kernel
theorem dX7_file_75 : decode cX7_file 75 = .ok (.getfield 16, 3) := by decide +kernel
theorem dX7_file_78 : decode cX7_file 78 = .ok (.iconst 2, 1) := by decide +kernel
theorem dX7_file_79 : decode cX7_file 79 = .ok (.aload_n 0, 1) := by decide +kernel
theorem dX7_file_80 : decode cX7_file 80 = .ok (.getfield 81, 3) := by decide +kernel
theorem dX7_file_83 : decode cX7_file 83 = .ok (.imul, 1) := by decide +kernel
theorem dX7_file_84 : decode cX7_file 84 = .ok (.iconst 1, 1) := by decide +kernel
theorem dX7_file_85 : decode cX7_file 85 = .ok (.iadd, 1) := by decide +kernel
theorem dX7_file_86 : decode cX7_file 86 = .ok (.iconst (-1), 1) := by decide +kernel
theorem dX7_file_87 : decode cX7_file 87 = .ok (.iastore, 1) := by decide +kernel
theorem dX7_file_88 : decode cX7_file 88 = .ok (.aload_n 0, 1) := by decide +kernel
theorem dX7_file_89 : decode cX7_file 89 = .ok (.getfield 19, 3) := by decide +kernel
theorem dX7_file_92 : decode cX7_file 92 = .ok (.aload_n 0, 1) := by decide +kernel
theorem dX7_file_93 : decode cX7_file 93 = .ok (.getfield 81, 3) := by decide +kernel
theorem dX7_file_96 : decode cX7_file 96 = .ok (.iconst 1, 1) := by decide +kernel
theorem dX7_file_97 : decode cX7_file 97 = .ok (.iload_n 2, 1) := by decide +kernel
theorem dX7_file_98 : decode cX7_file 98 = .ok (.ishl, 1) := by decide +kernel
theorem dX7_file_99 : decode cX7_file 99 = .ok (.iastore, 1) := by decide +kernel
theorem dX7_file_100 : decode cX7_file 100 = .ok (.aload_n 0, 1) := by decide +kernel
theorem dX7_file_101 : decode cX7_file 101 = .ok (.getfield 22, 3) := by decide +kernel
theorem dX7_file_104 : decode cX7_file 104 = .ok (.aload_n 0, 1) := by decide +kernel
theorem dX7_file_105 : decode cX7_file 105 = .ok (.getfield 81, 3) := by decide +kernel
theorem dX7_file_108 : decode cX7_file 108 = .ok (.iconst 0, 1) := by decide +kernel
theorem dX7_file_109 : decode cX7_file 109 = .ok (.iastore, 1) := by decide +kernel
theorem dX7_file_110 : decode cX7_file 110 = .ok (.aload_n 0, 1) := by decide +kernel
theorem dX7_file_111 : decode cX7_file 111 = .ok (.dup, 1) := by decide +kernel
theorem dX7_file_112 : decode cX7_file 112 = .ok (.getfield 81, 3) := by decide +kernel
theorem dX7_file_115 : decode cX7_file 115 = .ok (.iconst 1, 1) := by decide +kernel
theorem dX7_file_116 : decode cX7_file 116 = .ok (.iadd, 1) := by decide +kernel
theorem dX7_file_117 : decode cX7_file 117 = .ok (.putfield 81, 3) := by decide +kernel
theorem dX7_file_120 : decode cX7_file 120 = .ok (.aload_n 0, 1) := by decide +kernel
theorem dX7_file_121 : decode cX7_file 121 = .ok (.getfield 81, 3) := by decide +kernel
theorem dX7_file_124 : decode cX7_file 124 = .ok (.iconst 1, 1) := by decide +kernel
theorem dX7_file_125 : decode cX7_file 125 = .ok (.isub, 1) := by decide +kernel
theorem dX7_file_126 : decode cX7_file 126 = .ok (.ireturn, 1) := by decide +kernel
theorem dX7_namesOf_0 : decode cX7_namesOf 0 = .ok (.aload_n 0, 1) := by decide +kernel
theorem dX7_namesOf_1 : decode cX7_namesOf 1 = .ok (.getfield 16, 3) := by decide +kernel
theorem dX7_namesOf_4 : decode cX7_namesOf 4 = .ok (.iconst 2, 1) := by decide +kernel
theorem dX7_namesOf_5 : decode cX7_namesOf 5 = .ok (.iload_n 1, 1) := by decide +kernel
theorem dX7_namesOf_6 : decode cX7_namesOf 6 = .ok (.imul, 1) := by decide +kernel
theorem dX7_namesOf_7 : decode cX7_namesOf 7 = .ok (.iaload, 1) := by decide +kernel
theorem dX7_namesOf_8 : decode cX7_namesOf 8 = .ok (.istore_n 2, 1) := by decide +kernel
theorem dX7_namesOf_9 : decode cX7_namesOf 9 = .ok (.iload_n 2, 1) := by decide +kernel
theorem dX7_namesOf_10 : decode cX7_namesOf 10 = .ok (.iconst 1, 1) := by decide +kernel
theorem dX7_namesOf_11 : decode cX7_namesOf 11 = .ok (.if_icmp .ne 8, 3) := by decide +kernel
theorem dX7_namesOf_14 : decode cX7_namesOf 14 = .ok (.bipush 6, 2) := by decide +kernel
theorem dX7_namesOf_16 : decode cX7_namesOf 16 = .ok (.goto 13, 3) := by decide +kernel
theorem dX7_namesOf_19 : decode cX7_namesOf 19 = .ok (.iload_n 2, 1) := by decide +kernel
theorem dX7_namesOf_20 : decode cX7_namesOf 20 = .ok (.iconst 2, 1) := by decide +kernel
theorem dX7_namesOf_21 : decode cX7_namesOf 21 = .ok (.if_icmp .le 7, 3) := by decide +kernel
theorem dX7_namesOf_24 : decode cX7_namesOf 24 = .ok (.iconst 3, 1) := by decide +kernel
theorem dX7_namesOf_25 : decode cX7_namesOf 25 = .ok (.goto 4, 3) := by decide +kernel
theorem dX7_namesOf_28 : decode cX7_namesOf 28 = .ok (.iconst 2, 1) := by decide +kernel
theorem dX7_namesOf_29 : decode cX7_namesOf 29 = .ok (.ireturn, 1) := by decide +kernel
theorem dX7_tell_0 : decode cX7_tell 0 = .ok (.iload_n 2, 1) := by decide +kernel
theorem dX7_tell_1 : decode cX7_tell 1 = .ok (.tableswitch 94 0 5 #[39, 48, 55, 66, 73, 88], 39) := by decide +kernel
theorem dX7_tell_40 : decode cX7_tell 40 = .ok (.aload_n 0, 1) := by decide +kernel
theorem dX7_tell_41 : decode cX7_tell 41 = .ok (.getfield 16, 3) := by decide +kernel
theorem dX7_tell_44 : decode cX7_tell 44 = .ok (.iconst 2, 1) := by decide +kernel
theorem dX7_tell_45 : decode cX7_tell 45 = .ok (.iload_n 1, 1) := by decide +kernel
theorem dX7_tell_46 : decode cX7_tell 46 = .ok (.imul, 1) := by decide +kernel
theorem dX7_tell_47 : decode cX7_tell 47 = .ok (.iaload, 1) := by decide +kernel
theorem dX7_tell_48 : decode cX7_tell 48 = .ok (.ireturn, 1) := by decide +kernel
theorem dX7_tell_49 : decode cX7_tell 49 = .ok (.aload_n 0, 1) := by decide +kernel
theorem dX7_tell_50 : decode cX7_tell 50 = .ok (.getfield 19, 3) := by decide +kernel
theorem dX7_tell_53 : decode cX7_tell 53 = .ok (.iload_n 1, 1) := by decide +kernel
theorem dX7_tell_54 : decode cX7_tell 54 = .ok (.iaload, 1) := by decide +kernel
theorem dX7_tell_55 : decode cX7_tell 55 = .ok (.ireturn, 1) := by decide +kernel
theorem dX7_tell_56 : decode cX7_tell 56 = .ok (.aload_n 0, 1) := by decide +kernel
theorem dX7_tell_57 : decode cX7_tell 57 = .ok (.getfield 16, 3) := by decide +kernel
theorem dX7_tell_60 : decode cX7_tell 60 = .ok (.iconst 2, 1) := by decide +kernel
theorem dX7_tell_61 : decode cX7_tell 61 = .ok (.iload_n 1, 1) := by decide +kernel
theorem dX7_tell_62 : decode cX7_tell 62 = .ok (.imul, 1) := by decide +kernel
theorem dX7_tell_63 : decode cX7_tell 63 = .ok (.iconst 1, 1) := by decide +kernel
theorem dX7_tell_64 : decode cX7_tell 64 = .ok (.iadd, 1) := by decide +kernel
theorem dX7_tell_65 : decode cX7_tell 65 = .ok (.iaload, 1) := by decide +kernel
theorem dX7_tell_66 : decode cX7_tell 66 = .ok (.ireturn, 1) := by decide +kernel
theorem dX7_tell_67 : decode cX7_tell 67 = .ok (.aload_n 0, 1) := by decide +kernel
theorem dX7_tell_68 : decode cX7_tell 68 = .ok (.getfield 22, 3) := by decide +kernel
theorem dX7_tell_71 : decode cX7_tell 71 = .ok (.iload_n 1, 1) := by decide +kernel
theorem dX7_tell_72 : decode cX7_tell 72 = .ok (.iaload, 1) := by decide +kernel
theorem dX7_tell_73 : decode cX7_tell 73 = .ok (.ireturn, 1) := by decide +kernel
theorem dX7_tell_74 : decode cX7_tell 74 = .ok (.aload_n 0, 1) := by decide +kernel
theorem dX7_tell_75 : decode cX7_tell 75 = .ok (.getfield 19, 3) := by decide +kernel
theorem dX7_tell_78 : decode cX7_tell 78 = .ok (.iload_n 1, 1) := by decide +kernel
theorem dX7_tell_79 : decode cX7_tell 79 = .ok (.iaload, 1) := by decide +kernel
theorem dX7_tell_80 : decode cX7_tell 80 = .ok (.ifCond .ne 7, 3) := by decide +kernel
theorem dX7_tell_83 : decode cX7_tell 83 = .ok (.iconst 0, 1) := by decide +kernel
theorem dX7_tell_84 : decode cX7_tell 84 = .ok (.goto 4, 3) := by decide +kernel
theorem dX7_tell_87 : decode cX7_tell 87 = .ok (.iconst 1, 1) := by decide +kernel
theorem dX7_tell_88 : decode cX7_tell 88 = .ok (.ireturn, 1) := by decide +kernel
theorem dX7_tell_89 : decode cX7_tell 89 = .ok (.aload_n 0, 1) := by decide +kernel
theorem dX7_tell_90 : decode cX7_tell 90 = .ok (.iload_n 1, 1) := by decide +kernel
theorem dX7_tell_91 : decode cX7_tell 91 = .ok (.invokevirtual 113, 3) := by decide +kernel
theorem dX7_tell_94 : decode cX7_tell 94 = .ok (.ireturn, 1) := by decide +kernel
theorem dX7_tell_95 : decode cX7_tell 95 = .ok (.bipush (-102), 2) := by decide +kernel
theorem dX7_tell_97 : decode cX7_tell 97 = .ok (.ireturn, 1) := by decide +kernel
theorem dX7_about_0 : decode cX7_about 0 = .ok (.aload_n 0, 1) := by decide +kernel
theorem dX7_about_1 : decode cX7_about 1 = .ok (.iload_n 1, 1) := by decide +kernel
theorem dX7_about_2 : decode cX7_about 2 = .ok (.invokevirtual 117, 3) := by decide +kernel
theorem dX7_about_5 : decode cX7_about 5 = .ok (.ifCond .eq 12, 3) := by decide +kernel
theorem dX7_about_8 : decode cX7_about 8 = .ok (.aload_n 0, 1) := by decide +kernel
theorem dX7_about_9 : decode cX7_about 9 = .ok (.iload_n 1, 1) := by decide +kernel
theorem dX7_about_10 : decode cX7_about 10 = .ok (.iload_n 2, 1) := by decide +kernel
theorem dX7_about_11 : decode cX7_about 11 = .ok (.invokevirtual 120, 3) := by decide +kernel
theorem dX7_about_14 : decode cX7_about 14 = .ok (.goto 5, 3) := by decide +kernel
theorem dX7_about_17 : decode cX7_about 17 = .ok (.bipush (-101), 2) := by decide +kernel
theorem dX7_about_19 : decode cX7_about 19 = .ok (.ireturn, 1) := by decide +kernel
theorem dX7_as_0 : decode cX7_as 0 = .ok (.aload_n 0, 1) := by decide +kernel
theorem dX7_as_1 : decode cX7_as 1 = .ok (.iload_n 1, 1) := by decide +kernel
theorem dX7_as_2 : decode cX7_as 2 = .ok (.invokevirtual 117, 3) := by decide +kernel
theorem dX7_as_5 : decode cX7_as 5 = .ok (.ifCond .ne 6, 3) := by decide +kernel
theorem dX7_as_8 : decode cX7_as 8 = .ok (.bipush (-101), 2) := by decide +kernel
theorem dX7_as_10 : decode cX7_as 10 = .ok (.ireturn, 1) := by decide +kernel
theorem dX7_as_11 : decode cX7_as 11 = .ok (.iload_n 2, 1) := by decide +kernel
theorem dX7_as_12 : decode cX7_as 12 = .ok (.i2l, 1) := by decide +kernel
theorem dX7_as_13 : decode cX7_as 13 = .ok (.lconst 0, 1) := by decide +kernel
theorem dX7_as_14 : decode cX7_as 14 = .ok (.ldc2_w 107, 3) := by decide +kernel
theorem dX7_as_17 : decode cX7_as 17 = .ok (.invokestatic 61, 3) := by decide +kernel
theorem dX7_as_20 : decode cX7_as 20 = .ok (.ifCond .ne 6, 3) := by decide +kernel
theorem dX7_as_23 : decode cX7_as 23 = .ok (.bipush (-102), 2) := by decide +kernel
theorem dX7_as_25 : decode cX7_as 25 = .ok (.ireturn, 1) := by decide +kernel
theorem dX7_as_26 : decode cX7_as 26 = .ok (.aload_n 0, 1) := by decide +kernel
theorem dX7_as_27 : decode cX7_as 27 = .ok (.getfield 16, 3) := by decide +kernel
theorem dX7_as_30 : decode cX7_as 30 = .ok (.iconst 2, 1) := by decide +kernel
theorem dX7_as_31 : decode cX7_as 31 = .ok (.iload_n 1, 1) := by decide +kernel
theorem dX7_as_32 : decode cX7_as 32 = .ok (.imul, 1) := by decide +kernel
theorem dX7_as_33 : decode cX7_as 33 = .ok (.iaload, 1) := by decide +kernel
theorem dX7_as_34 : decode cX7_as 34 = .ok (.istore_n 3, 1) := by decide +kernel
theorem dX7_as_35 : decode cX7_as 35 = .ok (.iload_n 2, 1) := by decide +kernel
theorem dX7_as_36 : decode cX7_as 36 = .ok (.ifCond .eq 18, 3) := by decide +kernel
theorem dX7_as_39 : decode cX7_as 39 = .ok (.iload_n 2, 1) := by decide +kernel
theorem dX7_as_40 : decode cX7_as 40 = .ok (.iload_n 3, 1) := by decide +kernel
theorem dX7_as_41 : decode cX7_as 41 = .ok (.if_icmp .eq 13, 3) := by decide +kernel
theorem dX7_as_44 : decode cX7_as 44 = .ok (.iload_n 2, 1) := by decide +kernel
theorem dX7_as_45 : decode cX7_as 45 = .ok (.iconst 3, 1) := by decide +kernel
theorem dX7_as_46 : decode cX7_as 46 = .ok (.if_icmp .ne 12, 3) := by decide +kernel
theorem dX7_as_49 : decode cX7_as 49 = .ok (.iload_n 3, 1) := by decide +kernel
theorem dX7_as_50 : decode cX7_as 50 = .ok (.iconst 4, 1) := by decide +kernel
theorem dX7_as_51 : decode cX7_as 51 = .ok (.if_icmp .ne 7, 3) := by decide +kernel
theorem dX7_as_54 : decode cX7_as 54 = .ok (.iconst 1, 1) := by decide +kernel
theorem dX7_as_55 : decode cX7_as 55 = .ok (.goto 4, 3) := by decide +kernel
theorem dX7_as_58 : decode cX7_as 58 = .ok (.iconst 0, 1) := by decide +kernel
theorem dX7_as_59 : decode cX7_as 59 = .ok (.istore 4, 2) := by decide +kernel
theorem dX7_as_61 : decode cX7_as 61 = .ok (.iload 4, 2) := by decide +kernel
theorem dX7_as_63 : decode cX7_as 63 = .ok (.ifCond .eq 7, 3) := by decide +kernel
theorem dX7_as_66 : decode cX7_as 66 = .ok (.iload_n 1, 1) := by decide +kernel
theorem dX7_as_67 : decode cX7_as 67 = .ok (.goto 4, 3) := by decide +kernel
theorem dX7_as_70 : decode cX7_as 70 = .ok (.iconst (-1), 1) := by decide +kernel
theorem dX7_as_71 : decode cX7_as 71 = .ok (.ireturn, 1) := by decide +kernel
theorem dX7_mayCopy_0 : decode cX7_mayCopy 0 = .ok (.aload_n 0, 1) := by decide +kernel
theorem dX7_mayCopy_1 : decode cX7_mayCopy 1 = .ok (.getfield 19, 3) := by decide +kernel
theorem dX7_mayCopy_4 : decode cX7_mayCopy 4 = .ok (.iload_n 1, 1) := by decide +kernel
theorem dX7_mayCopy_5 : decode cX7_mayCopy 5 = .ok (.iaload, 1) := by decide +kernel
theorem dX7_mayCopy_6 : decode cX7_mayCopy 6 = .ok (.istore_n 3, 1) := by decide +kernel
theorem dX7_mayCopy_7 : decode cX7_mayCopy 7 = .ok (.iload_n 3, 1) := by decide +kernel
theorem dX7_mayCopy_8 : decode cX7_mayCopy 8 = .ok (.ifCond .eq 43, 3) := by decide +kernel
theorem dX7_mayCopy_11 : decode cX7_mayCopy 11 = .ok (.iload_n 3, 1) := by decide +kernel
theorem dX7_mayCopy_12 : decode cX7_mayCopy 12 = .ok (.iload_n 2, 1) := by decide +kernel
theorem dX7_mayCopy_13 : decode cX7_mayCopy 13 = .ok (.ishr, 1) := by decide +kernel
theorem dX7_mayCopy_14 : decode cX7_mayCopy 14 = .ok (.iconst 1, 1) := by decide +kernel
theorem dX7_mayCopy_15 : decode cX7_mayCopy 15 = .ok (.iand, 1) := by decide +kernel
theorem dX7_mayCopy_16 : decode cX7_mayCopy 16 = .ok (.ifCond .ne 35, 3) := by decide +kernel
theorem dX7_mayCopy_19 : decode cX7_mayCopy 19 = .ok (.iload_n 3, 1) := by decide +kernel
theorem dX7_mayCopy_20 : decode cX7_mayCopy 20 = .ok (.invokestatic 123, 3) := by decide +kernel
theorem dX7_mayCopy_23 : decode cX7_mayCopy 23 = .ok (.aload_n 0, 1) := by decide +kernel
theorem dX7_mayCopy_24 : decode cX7_mayCopy 24 = .ok (.iload_n 1, 1) := by decide +kernel
theorem dX7_mayCopy_25 : decode cX7_mayCopy 25 = .ok (.invokevirtual 113, 3) := by decide +kernel
theorem dX7_mayCopy_28 : decode cX7_mayCopy 28 = .ok (.if_icmp .ge 23, 3) := by decide +kernel
theorem dX7_mayCopy_31 : decode cX7_mayCopy 31 = .ok (.aload_n 0, 1) := by decide +kernel
theorem dX7_mayCopy_32 : decode cX7_mayCopy 32 = .ok (.aload_n 0, 1) := by decide +kernel
theorem dX7_mayCopy_33 : decode cX7_mayCopy 33 = .ok (.getfield 19, 3) := by decide +kernel
theorem dX7_mayCopy_36 : decode cX7_mayCopy 36 = .ok (.iload_n 2, 1) := by decide +kernel
theorem dX7_mayCopy_37 : decode cX7_mayCopy 37 = .ok (.invokevirtual 95, 3) := by decide +kernel
theorem dX7_mayCopy_40 : decode cX7_mayCopy 40 = .ok (.aload_n 0, 1) := by decide +kernel
theorem dX7_mayCopy_41 : decode cX7_mayCopy 41 = .ok (.getfield 78, 3) := by decide +kernel
theorem dX7_mayCopy_44 : decode cX7_mayCopy 44 = .ok (.if_icmp .ge 7, 3) := by decide +kernel
theorem dX7_mayCopy_47 : decode cX7_mayCopy 47 = .ok (.iconst 1, 1) := by decide +kernel
theorem dX7_mayCopy_48 : decode cX7_mayCopy 48 = .ok (.goto 4, 3) := by decide +kernel
theorem dX7_mayCopy_51 : decode cX7_mayCopy 51 = .ok (.iconst 0, 1) := by decide +kernel
theorem dX7_mayCopy_52 : decode cX7_mayCopy 52 = .ok (.ireturn, 1) := by decide +kernel
theorem dX7_copy_0 : decode cX7_copy 0 = .ok (.aload_n 0, 1) := by decide +kernel
theorem dX7_copy_1 : decode cX7_copy 1 = .ok (.iload_n 1, 1) := by decide +kernel
theorem dX7_copy_2 : decode cX7_copy 2 = .ok (.invokevirtual 117, 3) := by decide +kernel
theorem dX7_copy_5 : decode cX7_copy 5 = .ok (.ifCond .eq 10, 3) := by decide +kernel
theorem dX7_copy_8 : decode cX7_copy 8 = .ok (.iload_n 2, 1) := by decide +kernel
theorem dX7_copy_9 : decode cX7_copy 9 = .ok (.invokestatic 99, 3) := by decide +kernel
theorem dX7_copy_12 : decode cX7_copy 12 = .ok (.ifCond .ne 6, 3) := by decide +kernel
theorem dX7_copy_15 : decode cX7_copy 15 = .ok (.bipush (-101), 2) := by decide +kernel
theorem dX7_copy_17 : decode cX7_copy 17 = .ok (.ireturn, 1) := by decide +kernel
theorem dX7_copy_18 : decode cX7_copy 18 = .ok (.aload_n 0, 1) := by decide +kernel
theorem dX7_copy_19 : decode cX7_copy 19 = .ok (.iload_n 1, 1) := by decide +kernel
theorem dX7_copy_20 : decode cX7_copy 20 = .ok (.iload_n 2, 1) := by decide +kernel
theorem dX7_copy_21 : decode cX7_copy 21 = .ok (.invokevirtual 126, 3) := by decide +kernel
theorem dX7_copy_24 : decode cX7_copy 24 = .ok (.ifCond .ne 6, 3) := by decide +kernel
theorem dX7_copy_27 : decode cX7_copy 27 = .ok (.bipush (-103), 2) := by decide +kernel
theorem dX7_copy_29 : decode cX7_copy 29 = .ok (.ireturn, 1) := by decide +kernel
theorem dX7_copy_30 : decode cX7_copy 30 = .ok (.aload_n 0, 1) := by decide +kernel
theorem dX7_copy_31 : decode cX7_copy 31 = .ok (.getfield 19, 3) := by decide +kernel
theorem dX7_copy_34 : decode cX7_copy 34 = .ok (.iload_n 1, 1) := by decide +kernel
theorem dX7_copy_35 : decode cX7_copy 35 = .ok (.dup2, 1) := by decide +kernel
theorem dX7_copy_36 : decode cX7_copy 36 = .ok (.iaload, 1) := by decide +kernel
theorem dX7_copy_37 : decode cX7_copy 37 = .ok (.iconst 1, 1) := by decide +kernel
theorem dX7_copy_38 : decode cX7_copy 38 = .ok (.iload_n 2, 1) := by decide +kernel
theorem dX7_copy_39 : decode cX7_copy 39 = .ok (.ishl, 1) := by decide +kernel
theorem dX7_copy_40 : decode cX7_copy 40 = .ok (.ior, 1) := by decide +kernel
theorem dX7_copy_41 : decode cX7_copy 41 = .ok (.iastore, 1) := by decide +kernel
theorem dX7_copy_42 : decode cX7_copy 42 = .ok (.aload_n 0, 1) := by decide +kernel
theorem dX7_copy_43 : decode cX7_copy 43 = .ok (.getfield 19, 3) := by decide +kernel
theorem dX7_copy_46 : decode cX7_copy 46 = .ok (.iload_n 1, 1) := by decide +kernel
theorem dX7_copy_47 : decode cX7_copy 47 = .ok (.iaload, 1) := by decide +kernel
theorem dX7_copy_48 : decode cX7_copy 48 = .ok (.invokestatic 123, 3) := by decide +kernel
theorem dX7_copy_51 : decode cX7_copy 51 = .ok (.ireturn, 1) := by decide +kernel
theorem dX7_mayRename_0 : decode cX7_mayRename 0 = .ok (.aload_n 1, 1) := by decide +kernel
theorem dX7_mayRename_1 : decode cX7_mayRename 1 = .ok (.iload_n 2, 1) := by decide +kernel
theorem dX7_mayRename_2 : decode cX7_mayRename 2 = .ok (.iaload, 1) := by decide +kernel
theorem dX7_mayRename_3 : decode cX7_mayRename 3 = .ok (.iload_n 3, 1) := by decide +kernel
theorem dX7_mayRename_4 : decode cX7_mayRename 4 = .ok (.ishr, 1) := by decide +kernel
theorem dX7_mayRename_5 : decode cX7_mayRename 5 = .ok (.iconst 1, 1) := by decide +kernel
theorem dX7_mayRename_6 : decode cX7_mayRename 6 = .ok (.iand, 1) := by decide +kernel
theorem dX7_mayRename_7 : decode cX7_mayRename 7 = .ok (.iconst 1, 1) := by decide +kernel
theorem dX7_mayRename_8 : decode cX7_mayRename 8 = .ok (.if_icmp .ne 32, 3) := by decide +kernel
theorem dX7_mayRename_11 : decode cX7_mayRename 11 = .ok (.aload_n 1, 1) := by decide +kernel
theorem dX7_mayRename_12 : decode cX7_mayRename 12 = .ok (.iload_n 2, 1) := by decide +kernel
theorem dX7_mayRename_13 : decode cX7_mayRename 13 = .ok (.iaload, 1) := by decide +kernel
theorem dX7_mayRename_14 : decode cX7_mayRename 14 = .ok (.iload 4, 2) := by decide +kernel
theorem dX7_mayRename_16 : decode cX7_mayRename 16 = .ok (.ishr, 1) := by decide +kernel
theorem dX7_mayRename_17 : decode cX7_mayRename 17 = .ok (.iconst 1, 1) := by decide +kernel
theorem dX7_mayRename_18 : decode cX7_mayRename 18 = .ok (.iand, 1) := by decide +kernel
theorem dX7_mayRename_19 : decode cX7_mayRename 19 = .ok (.ifCond .ne 21, 3) := by decide +kernel
theorem dX7_mayRename_22 : decode cX7_mayRename 22 = .ok (.aload_n 0, 1) := by decide +kernel
theorem dX7_mayRename_23 : decode cX7_mayRename 23 = .ok (.aload_n 1, 1) := by decide +kernel
theorem dX7_mayRename_24 : decode cX7_mayRename 24 = .ok (.iload 4, 2) := by decide +kernel
theorem dX7_mayRename_26 : decode cX7_mayRename 26 = .ok (.invokevirtual 95, 3) := by decide +kernel
theorem dX7_mayRename_29 : decode cX7_mayRename 29 = .ok (.aload_n 0, 1) := by decide +kernel
theorem dX7_mayRename_30 : decode cX7_mayRename 30 = .ok (.getfield 78, 3) := by decide +kernel
theorem dX7_mayRename_33 : decode cX7_mayRename 33 = .ok (.if_icmp .ge 7, 3) := by decide +kernel
theorem dX7_mayRename_36 : decode cX7_mayRename 36 = .ok (.iconst 1, 1) := by decide +kernel
theorem dX7_mayRename_37 : decode cX7_mayRename 37 = .ok (.goto 4, 3) := by decide +kernel
theorem dX7_mayRename_40 : decode cX7_mayRename 40 = .ok (.iconst 0, 1) := by decide +kernel
theorem dX7_mayRename_41 : decode cX7_mayRename 41 = .ok (.ireturn, 1) := by decide +kernel
theorem dX7_rename_0 : decode cX7_rename 0 = .ok (.aload_n 0, 1) := by decide +kernel
theorem dX7_rename_1 : decode cX7_rename 1 = .ok (.iload_n 1, 1) := by decide +kernel
theorem dX7_rename_2 : decode cX7_rename 2 = .ok (.invokevirtual 117, 3) := by decide +kernel
theorem dX7_rename_5 : decode cX7_rename 5 = .ok (.ifCond .eq 22, 3) := by decide +kernel
theorem dX7_rename_8 : decode cX7_rename 8 = .ok (.iload_n 2, 1) := by decide +kernel
theorem dX7_rename_9 : decode cX7_rename 9 = .ok (.invokestatic 99, 3) := by decide +kernel
theorem dX7_rename_12 : decode cX7_rename 12 = .ok (.ifCond .eq 15, 3) := by decide +kernel
theorem dX7_rename_15 : decode cX7_rename 15 = .ok (.iload_n 3, 1) := by decide +kernel
theorem dX7_rename_16 : decode cX7_rename 16 = .ok (.invokestatic 99, 3) := by decide +kernel
theorem dX7_rename_19 : decode cX7_rename 19 = .ok (.ifCond .eq 8, 3) := by decide +kernel
theorem dX7_rename_22 : decode cX7_rename 22 = .ok (.iload_n 2, 1) := by decide +kernel
theorem dX7_rename_23 : decode cX7_rename 23 = .ok (.iload_n 3, 1) := by decide +kernel
theorem dX7_rename_24 : decode cX7_rename 24 = .ok (.if_icmp .ne 6, 3) := by decide +kernel
theorem dX7_rename_27 : decode cX7_rename 27 = .ok (.bipush (-101), 2) := by decide +kernel
theorem dX7_rename_29 : decode cX7_rename 29 = .ok (.ireturn, 1) := by decide +kernel
theorem dX7_rename_30 : decode cX7_rename 30 = .ok (.aload_n 0, 1) := by decide +kernel
theorem dX7_rename_31 : decode cX7_rename 31 = .ok (.aload_n 0, 1) := by decide +kernel
theorem dX7_rename_32 : decode cX7_rename 32 = .ok (.getfield 19, 3) := by decide +kernel
theorem dX7_rename_35 : decode cX7_rename 35 = .ok (.iload_n 1, 1) := by decide +kernel
theorem dX7_rename_36 : decode cX7_rename 36 = .ok (.iload_n 2, 1) := by decide +kernel
theorem dX7_rename_37 : decode cX7_rename 37 = .ok (.iload_n 3, 1) := by decide +kernel
theorem dX7_rename_38 : decode cX7_rename 38 = .ok (.invokevirtual 130, 3) := by decide +kernel
theorem dX7_rename_41 : decode cX7_rename 41 = .ok (.ifCond .ne 6, 3) := by decide +kernel
theorem dX7_rename_44 : decode cX7_rename 44 = .ok (.bipush (-103), 2) := by decide +kernel
theorem dX7_rename_46 : decode cX7_rename 46 = .ok (.ireturn, 1) := by decide +kernel
theorem dX7_rename_47 : decode cX7_rename 47 = .ok (.aload_n 0, 1) := by decide +kernel
theorem dX7_rename_48 : decode cX7_rename 48 = .ok (.getfield 19, 3) := by decide +kernel
theorem dX7_rename_51 : decode cX7_rename 51 = .ok (.iload_n 1, 1) := by decide +kernel
theorem dX7_rename_52 : decode cX7_rename 52 = .ok (.aload_n 0, 1) := by decide +kernel
theorem dX7_rename_53 : decode cX7_rename 53 = .ok (.getfield 19, 3) := by decide +kernel
theorem dX7_rename_56 : decode cX7_rename 56 = .ok (.iload_n 1, 1) := by decide +kernel
theorem dX7_rename_57 : decode cX7_rename 57 = .ok (.iaload, 1) := by decide +kernel
theorem dX7_rename_58 : decode cX7_rename 58 = .ok (.iconst 1, 1) := by decide +kernel
theorem dX7_rename_59 : decode cX7_rename 59 = .ok (.iload_n 2, 1) := by decide +kernel
theorem dX7_rename_60 : decode cX7_rename 60 = .ok (.ishl, 1) := by decide +kernel
theorem dX7_rename_61 : decode cX7_rename 61 = .ok (.iconst (-1), 1) := by decide +kernel
theorem dX7_rename_62 : decode cX7_rename 62 = .ok (.ixor, 1) := by decide +kernel
theorem dX7_rename_63 : decode cX7_rename 63 = .ok (.iand, 1) := by decide +kernel
theorem dX7_rename_64 : decode cX7_rename 64 = .ok (.iconst 1, 1) := by decide +kernel
theorem dX7_rename_65 : decode cX7_rename 65 = .ok (.iload_n 3, 1) := by decide +kernel
theorem dX7_rename_66 : decode cX7_rename 66 = .ok (.ishl, 1) := by decide +kernel
theorem dX7_rename_67 : decode cX7_rename 67 = .ok (.ior, 1) := by decide +kernel
theorem dX7_rename_68 : decode cX7_rename 68 = .ok (.iastore, 1) := by decide +kernel
theorem dX7_rename_69 : decode cX7_rename 69 = .ok (.aload_n 0, 1) := by decide +kernel
theorem dX7_rename_70 : decode cX7_rename 70 = .ok (.aload_n 0, 1) := by decide +kernel
theorem dX7_rename_71 : decode cX7_rename 71 = .ok (.getfield 19, 3) := by decide +kernel
theorem dX7_rename_74 : decode cX7_rename 74 = .ok (.iload_n 3, 1) := by decide +kernel
theorem dX7_rename_75 : decode cX7_rename 75 = .ok (.invokevirtual 95, 3) := by decide +kernel
theorem dX7_rename_78 : decode cX7_rename 78 = .ok (.ireturn, 1) := by decide +kernel
theorem dX7_point_0 : decode cX7_point 0 = .ok (.aload_n 0, 1) := by decide +kernel
theorem dX7_point_1 : decode cX7_point 1 = .ok (.iload_n 1, 1) := by decide +kernel
theorem dX7_point_2 : decode cX7_point 2 = .ok (.invokevirtual 117, 3) := by decide +kernel
theorem dX7_point_5 : decode cX7_point 5 = .ok (.ifCond .eq 21, 3) := by decide +kernel
theorem dX7_point_8 : decode cX7_point 8 = .ok (.iload_n 2, 1) := by decide +kernel
theorem dX7_point_9 : decode cX7_point 9 = .ok (.iconst (-1), 1) := by decide +kernel
theorem dX7_point_10 : decode cX7_point 10 = .ok (.if_icmp .eq 11, 3) := by decide +kernel
theorem dX7_point_13 : decode cX7_point 13 = .ok (.aload_n 0, 1) := by decide +kernel
theorem dX7_point_14 : decode cX7_point 14 = .ok (.iload_n 2, 1) := by decide +kernel
theorem dX7_point_15 : decode cX7_point 15 = .ok (.invokevirtual 117, 3) := by decide +kernel
theorem dX7_point_18 : decode cX7_point 18 = .ok (.ifCond .eq 8, 3) := by decide +kernel
theorem dX7_point_21 : decode cX7_point 21 = .ok (.iload_n 1, 1) := by decide +kernel
theorem dX7_point_22 : decode cX7_point 22 = .ok (.iload_n 2, 1) := by decide +kernel
theorem dX7_point_23 : decode cX7_point 23 = .ok (.if_icmp .ne 6, 3) := by decide +kernel
theorem dX7_point_26 : decode cX7_point 26 = .ok (.bipush (-101), 2) := by decide +kernel
theorem dX7_point_28 : decode cX7_point 28 = .ok (.ireturn, 1) := by decide +kernel
theorem dX7_point_29 : decode cX7_point 29 = .ok (.aload_n 0, 1) := by decide +kernel
theorem dX7_point_30 : decode cX7_point 30 = .ok (.getfield 19, 3) := by decide +kernel
theorem dX7_point_33 : decode cX7_point 33 = .ok (.iload_n 1, 1) := by decide +kernel
theorem dX7_point_34 : decode cX7_point 34 = .ok (.iaload, 1) := by decide +kernel
theorem dX7_point_35 : decode cX7_point 35 = .ok (.ifCond .ne 6, 3) := by decide +kernel
theorem dX7_point_38 : decode cX7_point 38 = .ok (.bipush (-103), 2) := by decide +kernel
theorem dX7_point_40 : decode cX7_point 40 = .ok (.ireturn, 1) := by decide +kernel
theorem dX7_point_41 : decode cX7_point 41 = .ok (.aload_n 0, 1) := by decide +kernel
theorem dX7_point_42 : decode cX7_point 42 = .ok (.getfield 16, 3) := by decide +kernel
theorem dX7_point_45 : decode cX7_point 45 = .ok (.iconst 2, 1) := by decide +kernel
theorem dX7_point_46 : decode cX7_point 46 = .ok (.iload_n 1, 1) := by decide +kernel
theorem dX7_point_47 : decode cX7_point 47 = .ok (.imul, 1) := by decide +kernel
theorem dX7_point_48 : decode cX7_point 48 = .ok (.iconst 1, 1) := by decide +kernel
theorem dX7_point_49 : decode cX7_point 49 = .ok (.iadd, 1) := by decide +kernel
theorem dX7_point_50 : decode cX7_point 50 = .ok (.iaload, 1) := by decide +kernel
theorem dX7_point_51 : decode cX7_point 51 = .ok (.istore_n 3, 1) := by decide +kernel
theorem dX7_point_52 : decode cX7_point 52 = .ok (.aload_n 0, 1) := by decide +kernel
theorem dX7_point_53 : decode cX7_point 53 = .ok (.getfield 16, 3) := by decide +kernel
theorem dX7_point_56 : decode cX7_point 56 = .ok (.iconst 2, 1) := by decide +kernel
theorem dX7_point_57 : decode cX7_point 57 = .ok (.iload_n 1, 1) := by decide +kernel
theorem dX7_point_58 : decode cX7_point 58 = .ok (.imul, 1) := by decide +kernel
theorem dX7_point_59 : decode cX7_point 59 = .ok (.iconst 1, 1) := by decide +kernel
theorem dX7_point_60 : decode cX7_point 60 = .ok (.iadd, 1) := by decide +kernel
theorem dX7_point_61 : decode cX7_point 61 = .ok (.iload_n 2, 1) := by decide +kernel
theorem dX7_point_62 : decode cX7_point 62 = .ok (.iastore, 1) := by decide +kernel
theorem dX7_point_63 : decode cX7_point 63 = .ok (.iload_n 3, 1) := by decide +kernel
theorem dX7_point_64 : decode cX7_point 64 = .ok (.ireturn, 1) := by decide +kernel
theorem dX7_asItIs_0 : decode cX7_asItIs 0 = .ok (.iconst 0, 1) := by decide +kernel
theorem dX7_asItIs_1 : decode cX7_asItIs 1 = .ok (.istore_n 1, 1) := by decide +kernel
theorem dX7_asItIs_2 : decode cX7_asItIs 2 = .ok (.iload_n 1, 1) := by decide +kernel
theorem dX7_asItIs_3 : decode cX7_asItIs 3 = .ok (.iconst 5, 1) := by decide +kernel
theorem dX7_asItIs_4 : decode cX7_asItIs 4 = .ok (.if_icmp .ge 33, 3) := by decide +kernel
theorem dX7_asItIs_7 : decode cX7_asItIs 7 = .ok (.aload_n 0, 1) := by decide +kernel
theorem dX7_asItIs_8 : decode cX7_asItIs 8 = .ok (.getfield 25, 3) := by decide +kernel
theorem dX7_asItIs_11 : decode cX7_asItIs 11 = .ok (.iload_n 1, 1) := by decide +kernel
theorem dX7_asItIs_12 : decode cX7_asItIs 12 = .ok (.aload_n 0, 1) := by decide +kernel
theorem dX7_asItIs_13 : decode cX7_asItIs 13 = .ok (.getfield 19, 3) := by decide +kernel
theorem dX7_asItIs_16 : decode cX7_asItIs 16 = .ok (.iload_n 1, 1) := by decide +kernel
theorem dX7_asItIs_17 : decode cX7_asItIs 17 = .ok (.iaload, 1) := by decide +kernel
theorem dX7_asItIs_18 : decode cX7_asItIs 18 = .ok (.iastore, 1) := by decide +kernel
theorem dX7_asItIs_19 : decode cX7_asItIs 19 = .ok (.aload_n 0, 1) := by decide +kernel
theorem dX7_asItIs_20 : decode cX7_asItIs 20 = .ok (.getfield 28, 3) := by decide +kernel
theorem dX7_asItIs_23 : decode cX7_asItIs 23 = .ok (.iload_n 1, 1) := by decide +kernel
theorem dX7_asItIs_24 : decode cX7_asItIs 24 = .ok (.aload_n 0, 1) := by decide +kernel
theorem dX7_asItIs_25 : decode cX7_asItIs 25 = .ok (.getfield 22, 3) := by decide +kernel
theorem dX7_asItIs_28 : decode cX7_asItIs 28 = .ok (.iload_n 1, 1) := by decide +kernel
theorem dX7_asItIs_29 : decode cX7_asItIs 29 = .ok (.iaload, 1) := by decide +kernel
theorem dX7_asItIs_30 : decode cX7_asItIs 30 = .ok (.iastore, 1) := by decide +kernel
theorem dX7_asItIs_31 : decode cX7_asItIs 31 = .ok (.iinc 1 1, 3) := by decide +kernel
theorem dX7_asItIs_34 : decode cX7_asItIs 34 = .ok (.goto (-32), 3) := by decide +kernel
theorem dX7_asItIs_37 : decode cX7_asItIs 37 = .ok (.return_, 1) := by decide +kernel
theorem dX7_isPointedAt_0 : decode cX7_isPointedAt 0 = .ok (.iconst 0, 1) := by decide +kernel
theorem dX7_isPointedAt_1 : decode cX7_isPointedAt 1 = .ok (.istore_n 2, 1) := by decide +kernel
theorem dX7_isPointedAt_2 : decode cX7_isPointedAt 2 = .ok (.iconst 0, 1) := by decide +kernel
theorem dX7_isPointedAt_3 : decode cX7_isPointedAt 3 = .ok (.istore_n 3, 1) := by decide +kernel
theorem dX7_isPointedAt_4 : decode cX7_isPointedAt 4 = .ok (.iload_n 3, 1) := by decide +kernel
theorem dX7_isPointedAt_5 : decode cX7_isPointedAt 5 = .ok (.aload_n 0, 1) := by decide +kernel
theorem dX7_isPointedAt_6 : decode cX7_isPointedAt 6 = .ok (.getfield 81, 3) := by decide +kernel
theorem dX7_isPointedAt_9 : decode cX7_isPointedAt 9 = .ok (.if_icmp .ge 42, 3) := by decide +kernel
theorem dX7_isPointedAt_12 : decode cX7_isPointedAt 12 = .ok (.iload_n 2, 1) := by decide +kernel
theorem dX7_isPointedAt_13 : decode cX7_isPointedAt 13 = .ok (.ifCond .ne 26, 3) := by decide +kernel
theorem dX7_isPointedAt_16 : decode cX7_isPointedAt 16 = .ok (.aload_n 0, 1) := by decide +kernel
theorem dX7_isPointedAt_17 : decode cX7_isPointedAt 17 = .ok (.getfield 31, 3) := by decide +kernel
theorem dX7_isPointedAt_20 : decode cX7_isPointedAt 20 = .ok (.iload_n 3, 1) := by decide +kernel
theorem dX7_isPointedAt_21 : decode cX7_isPointedAt 21 = .ok (.iaload, 1) := by decide +kernel
theorem dX7_isPointedAt_22 : decode cX7_isPointedAt 22 = .ok (.ifCond .eq 21, 3) := by decide +kernel
theorem dX7_isPointedAt_25 : decode cX7_isPointedAt 25 = .ok (.aload_n 0, 1) := by decide +kernel
theorem dX7_isPointedAt_26 : decode cX7_isPointedAt 26 = .ok (.getfield 16, 3) := by decide +kernel
theorem dX7_isPointedAt_29 : decode cX7_isPointedAt 29 = .ok (.iconst 2, 1) := by decide +kernel
theorem dX7_isPointedAt_30 : decode cX7_isPointedAt 30 = .ok (.iload_n 3, 1) := by decide +kernel
theorem dX7_isPointedAt_31 : decode cX7_isPointedAt 31 = .ok (.imul, 1) := by decide +kernel
theorem dX7_isPointedAt_32 : decode cX7_isPointedAt 32 = .ok (.iconst 1, 1) := by decide +kernel
theorem dX7_isPointedAt_33 : decode cX7_isPointedAt 33 = .ok (.iadd, 1) := by decide +kernel
theorem dX7_isPointedAt_34 : decode cX7_isPointedAt 34 = .ok (.iaload, 1) := by decide +kernel
theorem dX7_isPointedAt_35 : decode cX7_isPointedAt 35 = .ok (.iload_n 1, 1) := by decide +kernel
theorem dX7_isPointedAt_36 : decode cX7_isPointedAt 36 = .ok (.if_icmp .ne 7, 3) := by decide +kernel
theorem dX7_isPointedAt_39 : decode cX7_isPointedAt 39 = .ok (.iconst 1, 1) := by decide +kernel
end
section
theorem dX7_isPointedAt_40 : decode cX7_isPointedAt 40 = .ok (.goto 4, 3) := by decide +kernel
theorem dX7_isPointedAt_43 : decode cX7_isPointedAt 43 = .ok (.iconst 0, 1) := by decide +kernel
theorem dX7_isPointedAt_44 : decode cX7_isPointedAt 44 = .ok (.istore_n 2, 1) := by decide +kernel
theorem dX7_isPointedAt_45 : decode cX7_isPointedAt 45 = .ok (.iinc 3 1, 3) := by decide +kernel
theorem dX7_isPointedAt_48 : decode cX7_isPointedAt 48 = .ok (.goto (-44), 3) := by decide +kernel
theorem dX7_isPointedAt_51 : decode cX7_isPointedAt 51 = .ok (.iload_n 2, 1) := by decide +kernel
theorem dX7_isPointedAt_52 : decode cX7_isPointedAt 52 = .ok (.ireturn, 1) := by decide +kernel
theorem dX7_burnsOf_0 : decode cX7_burnsOf 0 = .ok (.aload_n 0, 1) := by decide +kernel
theorem dX7_burnsOf_1 : decode cX7_burnsOf 1 = .ok (.getfield 31, 3) := by decide +kernel
theorem dX7_burnsOf_4 : decode cX7_burnsOf 4 = .ok (.iload_n 1, 1) := by decide +kernel
theorem dX7_burnsOf_5 : decode cX7_burnsOf 5 = .ok (.iaload, 1) := by decide +kernel
theorem dX7_burnsOf_6 : decode cX7_burnsOf 6 = .ok (.iload_n 2, 1) := by decide +kernel
theorem dX7_burnsOf_7 : decode cX7_burnsOf 7 = .ok (.ishr, 1) := by decide +kernel
theorem dX7_burnsOf_8 : decode cX7_burnsOf 8 = .ok (.iconst 1, 1) := by decide +kernel
theorem dX7_burnsOf_9 : decode cX7_burnsOf 9 = .ok (.iand, 1) := by decide +kernel
theorem dX7_burnsOf_10 : decode cX7_burnsOf 10 = .ok (.iconst 1, 1) := by decide +kernel
theorem dX7_burnsOf_11 : decode cX7_burnsOf 11 = .ok (.if_icmp .ne 7, 3) := by decide +kernel
theorem dX7_burnsOf_14 : decode cX7_burnsOf 14 = .ok (.iconst 1, 1) := by decide +kernel
theorem dX7_burnsOf_15 : decode cX7_burnsOf 15 = .ok (.goto 4, 3) := by decide +kernel
theorem dX7_burnsOf_18 : decode cX7_burnsOf 18 = .ok (.iconst 0, 1) := by decide +kernel
theorem dX7_burnsOf_19 : decode cX7_burnsOf 19 = .ok (.istore_n 3, 1) := by decide +kernel
theorem dX7_burnsOf_20 : decode cX7_burnsOf 20 = .ok (.aload_n 0, 1) := by decide +kernel
theorem dX7_burnsOf_21 : decode cX7_burnsOf 21 = .ok (.getfield 31, 3) := by decide +kernel
theorem dX7_burnsOf_24 : decode cX7_burnsOf 24 = .ok (.iload_n 1, 1) := by decide +kernel
theorem dX7_burnsOf_25 : decode cX7_burnsOf 25 = .ok (.iaload, 1) := by decide +kernel
theorem dX7_burnsOf_26 : decode cX7_burnsOf 26 = .ok (.iconst 1, 1) := by decide +kernel
theorem dX7_burnsOf_27 : decode cX7_burnsOf 27 = .ok (.iload_n 2, 1) := by decide +kernel
theorem dX7_burnsOf_28 : decode cX7_burnsOf 28 = .ok (.ishl, 1) := by decide +kernel
theorem dX7_burnsOf_29 : decode cX7_burnsOf 29 = .ok (.if_icmp .ne 41, 3) := by decide +kernel
theorem dX7_burnsOf_32 : decode cX7_burnsOf 32 = .ok (.aload_n 0, 1) := by decide +kernel
theorem dX7_burnsOf_33 : decode cX7_burnsOf 33 = .ok (.getfield 28, 3) := by decide +kernel
theorem dX7_burnsOf_36 : decode cX7_burnsOf 36 = .ok (.iload_n 1, 1) := by decide +kernel
theorem dX7_burnsOf_37 : decode cX7_burnsOf 37 = .ok (.iaload, 1) := by decide +kernel
theorem dX7_burnsOf_38 : decode cX7_burnsOf 38 = .ok (.aload_n 0, 1) := by decide +kernel
theorem dX7_burnsOf_39 : decode cX7_burnsOf 39 = .ok (.getfield 16, 3) := by decide +kernel
theorem dX7_burnsOf_42 : decode cX7_burnsOf 42 = .ok (.iconst 2, 1) := by decide +kernel
theorem dX7_burnsOf_43 : decode cX7_burnsOf 43 = .ok (.iload_n 1, 1) := by decide +kernel
theorem dX7_burnsOf_44 : decode cX7_burnsOf 44 = .ok (.imul, 1) := by decide +kernel
theorem dX7_burnsOf_45 : decode cX7_burnsOf 45 = .ok (.iaload, 1) := by decide +kernel
theorem dX7_burnsOf_46 : decode cX7_burnsOf 46 = .ok (.iconst 2, 1) := by decide +kernel
theorem dX7_burnsOf_47 : decode cX7_burnsOf 47 = .ok (.if_icmp .ne 7, 3) := by decide +kernel
theorem dX7_burnsOf_50 : decode cX7_burnsOf 50 = .ok (.iconst 2, 1) := by decide +kernel
theorem dX7_burnsOf_51 : decode cX7_burnsOf 51 = .ok (.goto 4, 3) := by decide +kernel
theorem dX7_burnsOf_54 : decode cX7_burnsOf 54 = .ok (.iconst 1, 1) := by decide +kernel
theorem dX7_burnsOf_55 : decode cX7_burnsOf 55 = .ok (.if_icmp .ge 15, 3) := by decide +kernel
theorem dX7_burnsOf_58 : decode cX7_burnsOf 58 = .ok (.aload_n 0, 1) := by decide +kernel
theorem dX7_burnsOf_59 : decode cX7_burnsOf 59 = .ok (.iload_n 1, 1) := by decide +kernel
theorem dX7_burnsOf_60 : decode cX7_burnsOf 60 = .ok (.invokevirtual 134, 3) := by decide +kernel
theorem dX7_burnsOf_63 : decode cX7_burnsOf 63 = .ok (.ifCond .eq 7, 3) := by decide +kernel
theorem dX7_burnsOf_66 : decode cX7_burnsOf 66 = .ok (.iconst 1, 1) := by decide +kernel
theorem dX7_burnsOf_67 : decode cX7_burnsOf 67 = .ok (.goto 4, 3) := by decide +kernel
theorem dX7_burnsOf_70 : decode cX7_burnsOf 70 = .ok (.iconst 0, 1) := by decide +kernel
theorem dX7_burnsOf_71 : decode cX7_burnsOf 71 = .ok (.istore 4, 2) := by decide +kernel
theorem dX7_burnsOf_73 : decode cX7_burnsOf 73 = .ok (.iload_n 3, 1) := by decide +kernel
theorem dX7_burnsOf_74 : decode cX7_burnsOf 74 = .ok (.ifCond .eq 8, 3) := by decide +kernel
theorem dX7_burnsOf_77 : decode cX7_burnsOf 77 = .ok (.iload 4, 2) := by decide +kernel
theorem dX7_burnsOf_79 : decode cX7_burnsOf 79 = .ok (.ifCond .eq 24, 3) := by decide +kernel
theorem dX7_burnsOf_82 : decode cX7_burnsOf 82 = .ok (.aload_n 0, 1) := by decide +kernel
theorem dX7_burnsOf_83 : decode cX7_burnsOf 83 = .ok (.getfield 28, 3) := by decide +kernel
theorem dX7_burnsOf_86 : decode cX7_burnsOf 86 = .ok (.iload_n 1, 1) := by decide +kernel
theorem dX7_burnsOf_87 : decode cX7_burnsOf 87 = .ok (.dup2, 1) := by decide +kernel
theorem dX7_burnsOf_88 : decode cX7_burnsOf 88 = .ok (.iaload, 1) := by decide +kernel
theorem dX7_burnsOf_89 : decode cX7_burnsOf 89 = .ok (.iload 4, 2) := by decide +kernel
theorem dX7_burnsOf_91 : decode cX7_burnsOf 91 = .ok (.ifCond .eq 7, 3) := by decide +kernel
theorem dX7_burnsOf_94 : decode cX7_burnsOf 94 = .ok (.iconst 1, 1) := by decide +kernel
theorem dX7_burnsOf_95 : decode cX7_burnsOf 95 = .ok (.goto 4, 3) := by decide +kernel
theorem dX7_burnsOf_98 : decode cX7_burnsOf 98 = .ok (.iconst 0, 1) := by decide +kernel
theorem dX7_burnsOf_99 : decode cX7_burnsOf 99 = .ok (.iadd, 1) := by decide +kernel
theorem dX7_burnsOf_100 : decode cX7_burnsOf 100 = .ok (.iastore, 1) := by decide +kernel
theorem dX7_burnsOf_101 : decode cX7_burnsOf 101 = .ok (.iconst 0, 1) := by decide +kernel
theorem dX7_burnsOf_102 : decode cX7_burnsOf 102 = .ok (.ireturn, 1) := by decide +kernel
theorem dX7_burnsOf_103 : decode cX7_burnsOf 103 = .ok (.iconst 1, 1) := by decide +kernel
theorem dX7_burnsOf_104 : decode cX7_burnsOf 104 = .ok (.iload_n 2, 1) := by decide +kernel
theorem dX7_burnsOf_105 : decode cX7_burnsOf 105 = .ok (.iconst 1, 1) := by decide +kernel
theorem dX7_burnsOf_106 : decode cX7_burnsOf 106 = .ok (.iadd, 1) := by decide +kernel
theorem dX7_burnsOf_107 : decode cX7_burnsOf 107 = .ok (.bipush 6, 2) := by decide +kernel
theorem dX7_burnsOf_109 : decode cX7_burnsOf 109 = .ok (.irem, 1) := by decide +kernel
theorem dX7_burnsOf_110 : decode cX7_burnsOf 110 = .ok (.ishl, 1) := by decide +kernel
theorem dX7_burnsOf_111 : decode cX7_burnsOf 111 = .ok (.istore 5, 2) := by decide +kernel
theorem dX7_burnsOf_113 : decode cX7_burnsOf 113 = .ok (.iconst 1, 1) := by decide +kernel
theorem dX7_burnsOf_114 : decode cX7_burnsOf 114 = .ok (.iload_n 2, 1) := by decide +kernel
theorem dX7_burnsOf_115 : decode cX7_burnsOf 115 = .ok (.ishl, 1) := by decide +kernel
theorem dX7_burnsOf_116 : decode cX7_burnsOf 116 = .ok (.aload_n 0, 1) := by decide +kernel
theorem dX7_burnsOf_117 : decode cX7_burnsOf 117 = .ok (.getfield 16, 3) := by decide +kernel
theorem dX7_burnsOf_120 : decode cX7_burnsOf 120 = .ok (.iconst 2, 1) := by decide +kernel
theorem dX7_burnsOf_121 : decode cX7_burnsOf 121 = .ok (.iload_n 1, 1) := by decide +kernel
theorem dX7_burnsOf_122 : decode cX7_burnsOf 122 = .ok (.imul, 1) := by decide +kernel
theorem dX7_burnsOf_123 : decode cX7_burnsOf 123 = .ok (.iaload, 1) := by decide +kernel
theorem dX7_burnsOf_124 : decode cX7_burnsOf 124 = .ok (.iconst 4, 1) := by decide +kernel
theorem dX7_burnsOf_125 : decode cX7_burnsOf 125 = .ok (.if_icmp .ne 15, 3) := by decide +kernel
theorem dX7_burnsOf_128 : decode cX7_burnsOf 128 = .ok (.aload_n 0, 1) := by decide +kernel
theorem dX7_burnsOf_129 : decode cX7_burnsOf 129 = .ok (.getfield 31, 3) := by decide +kernel
theorem dX7_burnsOf_132 : decode cX7_burnsOf 132 = .ok (.iload_n 1, 1) := by decide +kernel
theorem dX7_burnsOf_133 : decode cX7_burnsOf 133 = .ok (.iaload, 1) := by decide +kernel
theorem dX7_burnsOf_134 : decode cX7_burnsOf 134 = .ok (.iload 5, 2) := by decide +kernel
theorem dX7_burnsOf_136 : decode cX7_burnsOf 136 = .ok (.iand, 1) := by decide +kernel
theorem dX7_burnsOf_137 : decode cX7_burnsOf 137 = .ok (.goto 4, 3) := by decide +kernel
theorem dX7_burnsOf_140 : decode cX7_burnsOf 140 = .ok (.iconst 0, 1) := by decide +kernel
theorem dX7_burnsOf_141 : decode cX7_burnsOf 141 = .ok (.ior, 1) := by decide +kernel
theorem dX7_burnsOf_142 : decode cX7_burnsOf 142 = .ok (.ireturn, 1) := by decide +kernel
theorem dX7_spread_0 : decode cX7_spread 0 = .ok (.iconst 0, 1) := by decide +kernel
theorem dX7_spread_1 : decode cX7_spread 1 = .ok (.istore_n 2, 1) := by decide +kernel
theorem dX7_spread_2 : decode cX7_spread 2 = .ok (.iload_n 2, 1) := by decide +kernel
theorem dX7_spread_3 : decode cX7_spread 3 = .ok (.bipush 6, 2) := by decide +kernel
theorem dX7_spread_5 : decode cX7_spread 5 = .ok (.if_icmp .ge 51, 3) := by decide +kernel
theorem dX7_spread_8 : decode cX7_spread 8 = .ok (.aload_n 0, 1) := by decide +kernel
theorem dX7_spread_9 : decode cX7_spread 9 = .ok (.getfield 25, 3) := by decide +kernel
theorem dX7_spread_12 : decode cX7_spread 12 = .ok (.iload_n 1, 1) := by decide +kernel
theorem dX7_spread_13 : decode cX7_spread 13 = .ok (.iaload, 1) := by decide +kernel
theorem dX7_spread_14 : decode cX7_spread 14 = .ok (.iload_n 2, 1) := by decide +kernel
theorem dX7_spread_15 : decode cX7_spread 15 = .ok (.ishr, 1) := by decide +kernel
theorem dX7_spread_16 : decode cX7_spread 16 = .ok (.iconst 1, 1) := by decide +kernel
theorem dX7_spread_17 : decode cX7_spread 17 = .ok (.iand, 1) := by decide +kernel
theorem dX7_spread_18 : decode cX7_spread 18 = .ok (.ifCond .ne 32, 3) := by decide +kernel
theorem dX7_spread_21 : decode cX7_spread 21 = .ok (.aload_n 0, 1) := by decide +kernel
theorem dX7_spread_22 : decode cX7_spread 22 = .ok (.aload_n 0, 1) := by decide +kernel
theorem dX7_spread_23 : decode cX7_spread 23 = .ok (.getfield 25, 3) := by decide +kernel
theorem dX7_spread_26 : decode cX7_spread 26 = .ok (.iload_n 2, 1) := by decide +kernel
theorem dX7_spread_27 : decode cX7_spread 27 = .ok (.invokevirtual 95, 3) := by decide +kernel
theorem dX7_spread_30 : decode cX7_spread 30 = .ok (.aload_n 0, 1) := by decide +kernel
theorem dX7_spread_31 : decode cX7_spread 31 = .ok (.getfield 78, 3) := by decide +kernel
theorem dX7_spread_34 : decode cX7_spread 34 = .ok (.if_icmp .ge 16, 3) := by decide +kernel
theorem dX7_spread_37 : decode cX7_spread 37 = .ok (.aload_n 0, 1) := by decide +kernel
theorem dX7_spread_38 : decode cX7_spread 38 = .ok (.getfield 25, 3) := by decide +kernel
theorem dX7_spread_41 : decode cX7_spread 41 = .ok (.iload_n 1, 1) := by decide +kernel
theorem dX7_spread_42 : decode cX7_spread 42 = .ok (.dup2, 1) := by decide +kernel
theorem dX7_spread_43 : decode cX7_spread 43 = .ok (.iaload, 1) := by decide +kernel
theorem dX7_spread_44 : decode cX7_spread 44 = .ok (.iconst 1, 1) := by decide +kernel
theorem dX7_spread_45 : decode cX7_spread 45 = .ok (.iload_n 2, 1) := by decide +kernel
theorem dX7_spread_46 : decode cX7_spread 46 = .ok (.ishl, 1) := by decide +kernel
theorem dX7_spread_47 : decode cX7_spread 47 = .ok (.ior, 1) := by decide +kernel
theorem dX7_spread_48 : decode cX7_spread 48 = .ok (.iastore, 1) := by decide +kernel
theorem dX7_spread_49 : decode cX7_spread 49 = .ok (.return_, 1) := by decide +kernel
theorem dX7_spread_50 : decode cX7_spread 50 = .ok (.iinc 2 1, 3) := by decide +kernel
theorem dX7_spread_53 : decode cX7_spread 53 = .ok (.goto (-51), 3) := by decide +kernel
theorem dX7_spread_56 : decode cX7_spread 56 = .ok (.return_, 1) := by decide +kernel
theorem dX7_pass_0 : decode cX7_pass 0 = .ok (.iconst 0, 1) := by decide +kernel
theorem dX7_pass_1 : decode cX7_pass 1 = .ok (.istore_n 2, 1) := by decide +kernel
theorem dX7_pass_2 : decode cX7_pass 2 = .ok (.iload_n 2, 1) := by decide +kernel
theorem dX7_pass_3 : decode cX7_pass 3 = .ok (.iconst 5, 1) := by decide +kernel
theorem dX7_pass_4 : decode cX7_pass 4 = .ok (.if_icmp .ge 33, 3) := by decide +kernel
theorem dX7_pass_7 : decode cX7_pass 7 = .ok (.aload_n 0, 1) := by decide +kernel
theorem dX7_pass_8 : decode cX7_pass 8 = .ok (.getfield 31, 3) := by decide +kernel
theorem dX7_pass_11 : decode cX7_pass 11 = .ok (.iload_n 2, 1) := by decide +kernel
theorem dX7_pass_12 : decode cX7_pass 12 = .ok (.iload_n 2, 1) := by decide +kernel
theorem dX7_pass_13 : decode cX7_pass 13 = .ok (.aload_n 0, 1) := by decide +kernel
theorem dX7_pass_14 : decode cX7_pass 14 = .ok (.getfield 81, 3) := by decide +kernel
theorem dX7_pass_17 : decode cX7_pass 17 = .ok (.if_icmp .ge 12, 3) := by decide +kernel
theorem dX7_pass_20 : decode cX7_pass 20 = .ok (.aload_n 0, 1) := by decide +kernel
theorem dX7_pass_21 : decode cX7_pass 21 = .ok (.getfield 25, 3) := by decide +kernel
theorem dX7_pass_24 : decode cX7_pass 24 = .ok (.iload_n 2, 1) := by decide +kernel
theorem dX7_pass_25 : decode cX7_pass 25 = .ok (.iaload, 1) := by decide +kernel
theorem dX7_pass_26 : decode cX7_pass 26 = .ok (.goto 4, 3) := by decide +kernel
theorem dX7_pass_29 : decode cX7_pass 29 = .ok (.iconst 0, 1) := by decide +kernel
theorem dX7_pass_30 : decode cX7_pass 30 = .ok (.iastore, 1) := by decide +kernel
theorem dX7_pass_31 : decode cX7_pass 31 = .ok (.iinc 2 1, 3) := by decide +kernel
theorem dX7_pass_34 : decode cX7_pass 34 = .ok (.goto (-32), 3) := by decide +kernel
theorem dX7_pass_37 : decode cX7_pass 37 = .ok (.iconst 0, 1) := by decide +kernel
theorem dX7_pass_38 : decode cX7_pass 38 = .ok (.istore_n 2, 1) := by decide +kernel
theorem dX7_pass_39 : decode cX7_pass 39 = .ok (.iconst 0, 1) := by decide +kernel
theorem dX7_pass_40 : decode cX7_pass 40 = .ok (.istore_n 3, 1) := by decide +kernel
theorem dX7_pass_41 : decode cX7_pass 41 = .ok (.iload_n 3, 1) := by decide +kernel
theorem dX7_pass_42 : decode cX7_pass 42 = .ok (.aload_n 0, 1) := by decide +kernel
theorem dX7_pass_43 : decode cX7_pass 43 = .ok (.getfield 81, 3) := by decide +kernel
theorem dX7_pass_46 : decode cX7_pass 46 = .ok (.if_icmp .ge 38, 3) := by decide +kernel
theorem dX7_pass_49 : decode cX7_pass 49 = .ok (.aload_n 0, 1) := by decide +kernel
theorem dX7_pass_50 : decode cX7_pass 50 = .ok (.iload_n 3, 1) := by decide +kernel
theorem dX7_pass_51 : decode cX7_pass 51 = .ok (.iload_n 1, 1) := by decide +kernel
theorem dX7_pass_52 : decode cX7_pass 52 = .ok (.invokevirtual 137, 3) := by decide +kernel
theorem dX7_pass_55 : decode cX7_pass 55 = .ok (.istore 4, 2) := by decide +kernel
theorem dX7_pass_57 : decode cX7_pass 57 = .ok (.aload_n 0, 1) := by decide +kernel
theorem dX7_pass_58 : decode cX7_pass 58 = .ok (.getfield 25, 3) := by decide +kernel
theorem dX7_pass_61 : decode cX7_pass 61 = .ok (.iload_n 3, 1) := by decide +kernel
theorem dX7_pass_62 : decode cX7_pass 62 = .ok (.dup2, 1) := by decide +kernel
theorem dX7_pass_63 : decode cX7_pass 63 = .ok (.iaload, 1) := by decide +kernel
theorem dX7_pass_64 : decode cX7_pass 64 = .ok (.iload 4, 2) := by decide +kernel
theorem dX7_pass_66 : decode cX7_pass 66 = .ok (.iconst (-1), 1) := by decide +kernel
theorem dX7_pass_67 : decode cX7_pass 67 = .ok (.ixor, 1) := by decide +kernel
theorem dX7_pass_68 : decode cX7_pass 68 = .ok (.iand, 1) := by decide +kernel
theorem dX7_pass_69 : decode cX7_pass 69 = .ok (.iastore, 1) := by decide +kernel
theorem dX7_pass_70 : decode cX7_pass 70 = .ok (.iload_n 2, 1) := by decide +kernel
theorem dX7_pass_71 : decode cX7_pass 71 = .ok (.iload 4, 2) := by decide +kernel
theorem dX7_pass_73 : decode cX7_pass 73 = .ok (.invokestatic 123, 3) := by decide +kernel
theorem dX7_pass_76 : decode cX7_pass 76 = .ok (.iadd, 1) := by decide +kernel
theorem dX7_pass_77 : decode cX7_pass 77 = .ok (.istore_n 2, 1) := by decide +kernel
theorem dX7_pass_78 : decode cX7_pass 78 = .ok (.iinc 3 1, 3) := by decide +kernel
theorem dX7_pass_81 : decode cX7_pass 81 = .ok (.goto (-40), 3) := by decide +kernel
theorem dX7_pass_84 : decode cX7_pass 84 = .ok (.iconst 0, 1) := by decide +kernel
theorem dX7_pass_85 : decode cX7_pass 85 = .ok (.istore_n 3, 1) := by decide +kernel
theorem dX7_pass_86 : decode cX7_pass 86 = .ok (.iload_n 3, 1) := by decide +kernel
theorem dX7_pass_87 : decode cX7_pass 87 = .ok (.aload_n 0, 1) := by decide +kernel
theorem dX7_pass_88 : decode cX7_pass 88 = .ok (.getfield 81, 3) := by decide +kernel
theorem dX7_pass_91 : decode cX7_pass 91 = .ok (.if_icmp .ge 35, 3) := by decide +kernel
theorem dX7_pass_94 : decode cX7_pass 94 = .ok (.aload_n 0, 1) := by decide +kernel
theorem dX7_pass_95 : decode cX7_pass 95 = .ok (.getfield 16, 3) := by decide +kernel
theorem dX7_pass_98 : decode cX7_pass 98 = .ok (.iconst 2, 1) := by decide +kernel
theorem dX7_pass_99 : decode cX7_pass 99 = .ok (.iload_n 3, 1) := by decide +kernel
theorem dX7_pass_100 : decode cX7_pass 100 = .ok (.imul, 1) := by decide +kernel
theorem dX7_pass_101 : decode cX7_pass 101 = .ok (.iaload, 1) := by decide +kernel
theorem dX7_pass_102 : decode cX7_pass 102 = .ok (.iconst 1, 1) := by decide +kernel
theorem dX7_pass_103 : decode cX7_pass 103 = .ok (.if_icmp .ne 17, 3) := by decide +kernel
theorem dX7_pass_106 : decode cX7_pass 106 = .ok (.aload_n 0, 1) := by decide +kernel
theorem dX7_pass_107 : decode cX7_pass 107 = .ok (.getfield 25, 3) := by decide +kernel
theorem dX7_pass_110 : decode cX7_pass 110 = .ok (.iload_n 3, 1) := by decide +kernel
theorem dX7_pass_111 : decode cX7_pass 111 = .ok (.iaload, 1) := by decide +kernel
theorem dX7_pass_112 : decode cX7_pass 112 = .ok (.ifCond .eq 8, 3) := by decide +kernel
theorem dX7_pass_115 : decode cX7_pass 115 = .ok (.aload_n 0, 1) := by decide +kernel
theorem dX7_pass_116 : decode cX7_pass 116 = .ok (.iload_n 3, 1) := by decide +kernel
theorem dX7_pass_117 : decode cX7_pass 117 = .ok (.invokevirtual 140, 3) := by decide +kernel
theorem dX7_pass_120 : decode cX7_pass 120 = .ok (.iinc 3 1, 3) := by decide +kernel
theorem dX7_pass_123 : decode cX7_pass 123 = .ok (.goto (-37), 3) := by decide +kernel
theorem dX7_pass_126 : decode cX7_pass 126 = .ok (.iload_n 2, 1) := by decide +kernel
theorem dX7_pass_127 : decode cX7_pass 127 = .ok (.ireturn, 1) := by decide +kernel
theorem dX7_burn_0 : decode cX7_burn 0 = .ok (.iload_n 1, 1) := by decide +kernel
theorem dX7_burn_1 : decode cX7_burn 1 = .ok (.invokestatic 99, 3) := by decide +kernel
theorem dX7_burn_4 : decode cX7_burn 4 = .ok (.ifCond .ne 6, 3) := by decide +kernel
theorem dX7_burn_7 : decode cX7_burn 7 = .ok (.bipush (-101), 2) := by decide +kernel
theorem dX7_burn_9 : decode cX7_burn 9 = .ok (.ireturn, 1) := by decide +kernel
theorem dX7_burn_10 : decode cX7_burn 10 = .ok (.aload_n 0, 1) := by decide +kernel
theorem dX7_burn_11 : decode cX7_burn 11 = .ok (.invokevirtual 109, 3) := by decide +kernel
theorem dX7_burn_14 : decode cX7_burn 14 = .ok (.ifCond .eq 6, 3) := by decide +kernel
theorem dX7_burn_17 : decode cX7_burn 17 = .ok (.bipush (-103), 2) := by decide +kernel
theorem dX7_burn_19 : decode cX7_burn 19 = .ok (.ireturn, 1) := by decide +kernel
theorem dX7_burn_20 : decode cX7_burn 20 = .ok (.aload_n 0, 1) := by decide +kernel
theorem dX7_burn_21 : decode cX7_burn 21 = .ok (.invokevirtual 144, 3) := by decide +kernel
theorem dX7_burn_24 : decode cX7_burn 24 = .ok (.aload_n 0, 1) := by decide +kernel
theorem dX7_burn_25 : decode cX7_burn 25 = .ok (.iload_n 1, 1) := by decide +kernel
theorem dX7_burn_26 : decode cX7_burn 26 = .ok (.invokevirtual 147, 3) := by decide +kernel
theorem dX7_burn_29 : decode cX7_burn 29 = .ok (.istore_n 2, 1) := by decide +kernel
theorem dX7_burn_30 : decode cX7_burn 30 = .ok (.iconst 0, 1) := by decide +kernel
theorem dX7_burn_31 : decode cX7_burn 31 = .ok (.istore_n 3, 1) := by decide +kernel
theorem dX7_burn_32 : decode cX7_burn 32 = .ok (.iload_n 3, 1) := by decide +kernel
theorem dX7_burn_33 : decode cX7_burn 33 = .ok (.iconst 5, 1) := by decide +kernel
theorem dX7_burn_34 : decode cX7_burn 34 = .ok (.if_icmp .ge 33, 3) := by decide +kernel
theorem dX7_burn_37 : decode cX7_burn 37 = .ok (.aload_n 0, 1) := by decide +kernel
theorem dX7_burn_38 : decode cX7_burn 38 = .ok (.getfield 19, 3) := by decide +kernel
theorem dX7_burn_41 : decode cX7_burn 41 = .ok (.iload_n 3, 1) := by decide +kernel
theorem dX7_burn_42 : decode cX7_burn 42 = .ok (.aload_n 0, 1) := by decide +kernel
theorem dX7_burn_43 : decode cX7_burn 43 = .ok (.getfield 25, 3) := by decide +kernel
theorem dX7_burn_46 : decode cX7_burn 46 = .ok (.iload_n 3, 1) := by decide +kernel
theorem dX7_burn_47 : decode cX7_burn 47 = .ok (.iaload, 1) := by decide +kernel
theorem dX7_burn_48 : decode cX7_burn 48 = .ok (.iastore, 1) := by decide +kernel
theorem dX7_burn_49 : decode cX7_burn 49 = .ok (.aload_n 0, 1) := by decide +kernel
theorem dX7_burn_50 : decode cX7_burn 50 = .ok (.getfield 22, 3) := by decide +kernel
theorem dX7_burn_53 : decode cX7_burn 53 = .ok (.iload_n 3, 1) := by decide +kernel
theorem dX7_burn_54 : decode cX7_burn 54 = .ok (.aload_n 0, 1) := by decide +kernel
theorem dX7_burn_55 : decode cX7_burn 55 = .ok (.getfield 28, 3) := by decide +kernel
theorem dX7_burn_58 : decode cX7_burn 58 = .ok (.iload_n 3, 1) := by decide +kernel
theorem dX7_burn_59 : decode cX7_burn 59 = .ok (.iaload, 1) := by decide +kernel
theorem dX7_burn_60 : decode cX7_burn 60 = .ok (.iastore, 1) := by decide +kernel
theorem dX7_burn_61 : decode cX7_burn 61 = .ok (.iinc 3 1, 3) := by decide +kernel
theorem dX7_burn_64 : decode cX7_burn 64 = .ok (.goto (-32), 3) := by decide +kernel
theorem dX7_burn_67 : decode cX7_burn 67 = .ok (.aload_n 0, 1) := by decide +kernel
theorem dX7_burn_68 : decode cX7_burn 68 = .ok (.dup, 1) := by decide +kernel
theorem dX7_burn_69 : decode cX7_burn 69 = .ok (.getfield 84, 3) := by decide +kernel
theorem dX7_burn_72 : decode cX7_burn 72 = .ok (.iconst 1, 1) := by decide +kernel
theorem dX7_burn_73 : decode cX7_burn 73 = .ok (.iadd, 1) := by decide +kernel
theorem dX7_burn_74 : decode cX7_burn 74 = .ok (.putfield 84, 3) := by decide +kernel
theorem dX7_burn_77 : decode cX7_burn 77 = .ok (.iload_n 2, 1) := by decide +kernel
theorem dX7_burn_78 : decode cX7_burn 78 = .ok (.ireturn, 1) := by decide +kernel
theorem dX7_power_0 : decode cX7_power 0 = .ok (.iconst 1, 1) := by decide +kernel
theorem dX7_power_1 : decode cX7_power 1 = .ok (.istore_n 2, 1) := by decide +kernel
theorem dX7_power_2 : decode cX7_power 2 = .ok (.iconst 0, 1) := by decide +kernel
theorem dX7_power_3 : decode cX7_power 3 = .ok (.istore_n 3, 1) := by decide +kernel
theorem dX7_power_4 : decode cX7_power 4 = .ok (.iload_n 3, 1) := by decide +kernel
theorem dX7_power_5 : decode cX7_power 5 = .ok (.iload_n 1, 1) := by decide +kernel
theorem dX7_power_6 : decode cX7_power 6 = .ok (.if_icmp .ge 13, 3) := by decide +kernel
theorem dX7_power_9 : decode cX7_power 9 = .ok (.iload_n 2, 1) := by decide +kernel
theorem dX7_power_10 : decode cX7_power 10 = .ok (.iload_n 0, 1) := by decide +kernel
theorem dX7_power_11 : decode cX7_power 11 = .ok (.imul, 1) := by decide +kernel
theorem dX7_power_12 : decode cX7_power 12 = .ok (.istore_n 2, 1) := by decide +kernel
theorem dX7_power_13 : decode cX7_power 13 = .ok (.iinc 3 1, 3) := by decide +kernel
theorem dX7_power_16 : decode cX7_power 16 = .ok (.goto (-12), 3) := by decide +kernel
theorem dX7_power_19 : decode cX7_power 19 = .ok (.iload_n 2, 1) := by decide +kernel
theorem dX7_power_20 : decode cX7_power 20 = .ok (.ireturn, 1) := by decide +kernel
theorem dX7_livesOf_0 : decode cX7_livesOf 0 = .ok (.iconst 0, 1) := by decide +kernel
theorem dX7_livesOf_1 : decode cX7_livesOf 1 = .ok (.istore_n 3, 1) := by decide +kernel
theorem dX7_livesOf_2 : decode cX7_livesOf 2 = .ok (.iconst 0, 1) := by decide +kernel
theorem dX7_livesOf_3 : decode cX7_livesOf 3 = .ok (.istore 4, 2) := by decide +kernel
theorem dX7_livesOf_5 : decode cX7_livesOf 5 = .ok (.iload 4, 2) := by decide +kernel
theorem dX7_livesOf_7 : decode cX7_livesOf 7 = .ok (.bipush 6, 2) := by decide +kernel
theorem dX7_livesOf_9 : decode cX7_livesOf 9 = .ok (.iload_n 2, 1) := by decide +kernel
theorem dX7_livesOf_10 : decode cX7_livesOf 10 = .ok (.invokestatic 150, 3) := by decide +kernel
theorem dX7_livesOf_13 : decode cX7_livesOf 13 = .ok (.if_icmp .ge 117, 3) := by decide +kernel
theorem dX7_livesOf_16 : decode cX7_livesOf 16 = .ok (.iconst 1, 1) := by decide +kernel
theorem dX7_livesOf_17 : decode cX7_livesOf 17 = .ok (.istore 5, 2) := by decide +kernel
theorem dX7_livesOf_19 : decode cX7_livesOf 19 = .ok (.iload 4, 2) := by decide +kernel
theorem dX7_livesOf_21 : decode cX7_livesOf 21 = .ok (.istore 6, 2) := by decide +kernel
theorem dX7_livesOf_23 : decode cX7_livesOf 23 = .ok (.iconst 0, 1) := by decide +kernel
theorem dX7_livesOf_24 : decode cX7_livesOf 24 = .ok (.istore 7, 2) := by decide +kernel
theorem dX7_livesOf_26 : decode cX7_livesOf 26 = .ok (.iload 7, 2) := by decide +kernel
theorem dX7_livesOf_28 : decode cX7_livesOf 28 = .ok (.iload_n 2, 1) := by decide +kernel
theorem dX7_livesOf_29 : decode cX7_livesOf 29 = .ok (.if_icmp .ge 31, 3) := by decide +kernel
theorem dX7_livesOf_32 : decode cX7_livesOf 32 = .ok (.iload 5, 2) := by decide +kernel
theorem dX7_livesOf_34 : decode cX7_livesOf 34 = .ok (.aload_n 0, 1) := by decide +kernel
theorem dX7_livesOf_35 : decode cX7_livesOf 35 = .ok (.getfield 13, 3) := by decide +kernel
theorem dX7_livesOf_38 : decode cX7_livesOf 38 = .ok (.iload 6, 2) := by decide +kernel
theorem dX7_livesOf_40 : decode cX7_livesOf 40 = .ok (.bipush 6, 2) := by decide +kernel
theorem dX7_livesOf_42 : decode cX7_livesOf 42 = .ok (.irem, 1) := by decide +kernel
theorem dX7_livesOf_43 : decode cX7_livesOf 43 = .ok (.iaload, 1) := by decide +kernel
theorem dX7_livesOf_44 : decode cX7_livesOf 44 = .ok (.imul, 1) := by decide +kernel
theorem dX7_livesOf_45 : decode cX7_livesOf 45 = .ok (.istore 5, 2) := by decide +kernel
theorem dX7_livesOf_47 : decode cX7_livesOf 47 = .ok (.iload 6, 2) := by decide +kernel
theorem dX7_livesOf_49 : decode cX7_livesOf 49 = .ok (.bipush 6, 2) := by decide +kernel
theorem dX7_livesOf_51 : decode cX7_livesOf 51 = .ok (.idiv, 1) := by decide +kernel
theorem dX7_livesOf_52 : decode cX7_livesOf 52 = .ok (.istore 6, 2) := by decide +kernel
theorem dX7_livesOf_54 : decode cX7_livesOf 54 = .ok (.iinc 7 1, 3) := by decide +kernel
theorem dX7_livesOf_57 : decode cX7_livesOf 57 = .ok (.goto (-31), 3) := by decide +kernel
theorem dX7_livesOf_60 : decode cX7_livesOf 60 = .ok (.iload 5, 2) := by decide +kernel
theorem dX7_livesOf_62 : decode cX7_livesOf 62 = .ok (.ifCond .le 62, 3) := by decide +kernel
theorem dX7_livesOf_65 : decode cX7_livesOf 65 = .ok (.aload_n 0, 1) := by decide +kernel
theorem dX7_livesOf_66 : decode cX7_livesOf 66 = .ok (.invokevirtual 144, 3) := by decide +kernel
theorem dX7_livesOf_69 : decode cX7_livesOf 69 = .ok (.iload 4, 2) := by decide +kernel
theorem dX7_livesOf_71 : decode cX7_livesOf 71 = .ok (.istore 6, 2) := by decide +kernel
theorem dX7_livesOf_73 : decode cX7_livesOf 73 = .ok (.iconst 0, 1) := by decide +kernel
theorem dX7_livesOf_74 : decode cX7_livesOf 74 = .ok (.istore 7, 2) := by decide +kernel
theorem dX7_livesOf_76 : decode cX7_livesOf 76 = .ok (.iload 7, 2) := by decide +kernel
theorem dX7_livesOf_78 : decode cX7_livesOf 78 = .ok (.iload_n 2, 1) := by decide +kernel
theorem dX7_livesOf_79 : decode cX7_livesOf 79 = .ok (.if_icmp .ge 27, 3) := by decide +kernel
theorem dX7_livesOf_82 : decode cX7_livesOf 82 = .ok (.aload_n 0, 1) := by decide +kernel
theorem dX7_livesOf_83 : decode cX7_livesOf 83 = .ok (.iload 6, 2) := by decide +kernel
theorem dX7_livesOf_85 : decode cX7_livesOf 85 = .ok (.bipush 6, 2) := by decide +kernel
theorem dX7_livesOf_87 : decode cX7_livesOf 87 = .ok (.irem, 1) := by decide +kernel
theorem dX7_livesOf_88 : decode cX7_livesOf 88 = .ok (.invokevirtual 147, 3) := by decide +kernel
theorem dX7_livesOf_91 : decode cX7_livesOf 91 = .ok (.istore 8, 2) := by decide +kernel
theorem dX7_livesOf_93 : decode cX7_livesOf 93 = .ok (.iload 6, 2) := by decide +kernel
theorem dX7_livesOf_95 : decode cX7_livesOf 95 = .ok (.bipush 6, 2) := by decide +kernel
theorem dX7_livesOf_97 : decode cX7_livesOf 97 = .ok (.idiv, 1) := by decide +kernel
theorem dX7_livesOf_98 : decode cX7_livesOf 98 = .ok (.istore 6, 2) := by decide +kernel
theorem dX7_livesOf_100 : decode cX7_livesOf 100 = .ok (.iinc 7 1, 3) := by decide +kernel
theorem dX7_livesOf_103 : decode cX7_livesOf 103 = .ok (.goto (-27), 3) := by decide +kernel
theorem dX7_livesOf_106 : decode cX7_livesOf 106 = .ok (.iload_n 3, 1) := by decide +kernel
theorem dX7_livesOf_107 : decode cX7_livesOf 107 = .ok (.aload_n 0, 1) := by decide +kernel
theorem dX7_livesOf_108 : decode cX7_livesOf 108 = .ok (.getfield 25, 3) := by decide +kernel
theorem dX7_livesOf_111 : decode cX7_livesOf 111 = .ok (.iload_n 1, 1) := by decide +kernel
theorem dX7_livesOf_112 : decode cX7_livesOf 112 = .ok (.iaload, 1) := by decide +kernel
theorem dX7_livesOf_113 : decode cX7_livesOf 113 = .ok (.ifCond .eq 8, 3) := by decide +kernel
theorem dX7_livesOf_116 : decode cX7_livesOf 116 = .ok (.iload 5, 2) := by decide +kernel
theorem dX7_livesOf_118 : decode cX7_livesOf 118 = .ok (.goto 4, 3) := by decide +kernel
theorem dX7_livesOf_121 : decode cX7_livesOf 121 = .ok (.iconst 0, 1) := by decide +kernel
theorem dX7_livesOf_122 : decode cX7_livesOf 122 = .ok (.iadd, 1) := by decide +kernel
theorem dX7_livesOf_123 : decode cX7_livesOf 123 = .ok (.istore_n 3, 1) := by decide +kernel
theorem dX7_livesOf_124 : decode cX7_livesOf 124 = .ok (.iinc 4 1, 3) := by decide +kernel
theorem dX7_livesOf_127 : decode cX7_livesOf 127 = .ok (.goto (-122), 3) := by decide +kernel
theorem dX7_livesOf_130 : decode cX7_livesOf 130 = .ok (.iload_n 3, 1) := by decide +kernel
theorem dX7_livesOf_131 : decode cX7_livesOf 131 = .ok (.ireturn, 1) := by decide +kernel
theorem dX7_term_0 : decode cX7_term 0 = .ok (.iload_n 0, 1) := by decide +kernel
theorem dX7_term_1 : decode cX7_term 1 = .ok (.istore_n 3, 1) := by decide +kernel
theorem dX7_term_2 : decode cX7_term 2 = .ok (.iload_n 1, 1) := by decide +kernel
theorem dX7_term_3 : decode cX7_term 3 = .ok (.istore 4, 2) := by decide +kernel
theorem dX7_term_5 : decode cX7_term 5 = .ok (.iload_n 3, 1) := by decide +kernel
theorem dX7_term_6 : decode cX7_term 6 = .ok (.ifCond .eq 18, 3) := by decide +kernel
theorem dX7_term_9 : decode cX7_term 9 = .ok (.iload 4, 2) := by decide +kernel
theorem dX7_term_11 : decode cX7_term 11 = .ok (.iload_n 3, 1) := by decide +kernel
theorem dX7_term_12 : decode cX7_term 12 = .ok (.irem, 1) := by decide +kernel
theorem dX7_term_13 : decode cX7_term 13 = .ok (.istore 5, 2) := by decide +kernel
theorem dX7_term_15 : decode cX7_term 15 = .ok (.iload_n 3, 1) := by decide +kernel
theorem dX7_term_16 : decode cX7_term 16 = .ok (.istore 4, 2) := by decide +kernel
theorem dX7_term_18 : decode cX7_term 18 = .ok (.iload 5, 2) := by decide +kernel
theorem dX7_term_20 : decode cX7_term 20 = .ok (.istore_n 3, 1) := by decide +kernel
theorem dX7_term_21 : decode cX7_term 21 = .ok (.goto (-16), 3) := by decide +kernel
theorem dX7_term_24 : decode cX7_term 24 = .ok (.iload_n 2, 1) := by decide +kernel
theorem dX7_term_25 : decode cX7_term 25 = .ok (.ifCond .ne 10, 3) := by decide +kernel
theorem dX7_term_28 : decode cX7_term 28 = .ok (.iload_n 0, 1) := by decide +kernel
theorem dX7_term_29 : decode cX7_term 29 = .ok (.iload 4, 2) := by decide +kernel
theorem dX7_term_31 : decode cX7_term 31 = .ok (.idiv, 1) := by decide +kernel
theorem dX7_term_32 : decode cX7_term 32 = .ok (.goto 7, 3) := by decide +kernel
theorem dX7_term_35 : decode cX7_term 35 = .ok (.iload_n 1, 1) := by decide +kernel
theorem dX7_term_36 : decode cX7_term 36 = .ok (.iload 4, 2) := by decide +kernel
theorem dX7_term_38 : decode cX7_term 38 = .ok (.idiv, 1) := by decide +kernel
theorem dX7_term_39 : decode cX7_term 39 = .ok (.ireturn, 1) := by decide +kernel
theorem dX7_oddsOf_0 : decode cX7_oddsOf 0 = .ok (.aload_n 0, 1) := by decide +kernel
theorem dX7_oddsOf_1 : decode cX7_oddsOf 1 = .ok (.iload_n 1, 1) := by decide +kernel
theorem dX7_oddsOf_2 : decode cX7_oddsOf 2 = .ok (.iload_n 2, 1) := by decide +kernel
theorem dX7_oddsOf_3 : decode cX7_oddsOf 3 = .ok (.invokevirtual 153, 3) := by decide +kernel
theorem dX7_oddsOf_6 : decode cX7_oddsOf 6 = .ok (.bipush 10, 2) := by decide +kernel
theorem dX7_oddsOf_8 : decode cX7_oddsOf 8 = .ok (.iload_n 2, 1) := by decide +kernel
theorem dX7_oddsOf_9 : decode cX7_oddsOf 9 = .ok (.invokestatic 150, 3) := by decide +kernel
theorem dX7_oddsOf_12 : decode cX7_oddsOf 12 = .ok (.iload_n 3, 1) := by decide +kernel
theorem dX7_oddsOf_13 : decode cX7_oddsOf 13 = .ok (.invokestatic 156, 3) := by decide +kernel
theorem dX7_oddsOf_16 : decode cX7_oddsOf 16 = .ok (.ireturn, 1) := by decide +kernel
theorem dX7_odds_0 : decode cX7_odds 0 = .ok (.aload_n 0, 1) := by decide +kernel
theorem dX7_odds_1 : decode cX7_odds 1 = .ok (.iload_n 1, 1) := by decide +kernel
theorem dX7_odds_2 : decode cX7_odds 2 = .ok (.invokevirtual 117, 3) := by decide +kernel
theorem dX7_odds_5 : decode cX7_odds 5 = .ok (.ifCond .ne 6, 3) := by decide +kernel
theorem dX7_odds_8 : decode cX7_odds 8 = .ok (.bipush (-101), 2) := by decide +kernel
theorem dX7_odds_10 : decode cX7_odds 10 = .ok (.ireturn, 1) := by decide +kernel
theorem dX7_odds_11 : decode cX7_odds 11 = .ok (.iload_n 2, 1) := by decide +kernel
theorem dX7_odds_12 : decode cX7_odds 12 = .ok (.i2l, 1) := by decide +kernel
theorem dX7_odds_13 : decode cX7_odds 13 = .ok (.lconst 0, 1) := by decide +kernel
theorem dX7_odds_14 : decode cX7_odds 14 = .ok (.ldc2_w 107, 3) := by decide +kernel
theorem dX7_odds_17 : decode cX7_odds 17 = .ok (.invokestatic 61, 3) := by decide +kernel
theorem dX7_odds_20 : decode cX7_odds 20 = .ok (.ifCond .eq 23, 3) := by decide +kernel
theorem dX7_odds_23 : decode cX7_odds 23 = .ok (.iload_n 3, 1) := by decide +kernel
theorem dX7_odds_24 : decode cX7_odds 24 = .ok (.i2l, 1) := by decide +kernel
theorem dX7_odds_25 : decode cX7_odds 25 = .ok (.lconst 0, 1) := by decide +kernel
theorem dX7_odds_26 : decode cX7_odds 26 = .ok (.lconst 1, 1) := by decide +kernel
theorem dX7_odds_27 : decode cX7_odds 27 = .ok (.invokestatic 61, 3) := by decide +kernel
theorem dX7_odds_30 : decode cX7_odds 30 = .ok (.ifCond .eq 13, 3) := by decide +kernel
theorem dX7_odds_33 : decode cX7_odds 33 = .ok (.aload_n 0, 1) := by decide +kernel
theorem dX7_odds_34 : decode cX7_odds 34 = .ok (.iload_n 1, 1) := by decide +kernel
theorem dX7_odds_35 : decode cX7_odds 35 = .ok (.iload_n 2, 1) := by decide +kernel
theorem dX7_odds_36 : decode cX7_odds 36 = .ok (.iload_n 3, 1) := by decide +kernel
theorem dX7_odds_37 : decode cX7_odds 37 = .ok (.invokevirtual 160, 3) := by decide +kernel
theorem dX7_odds_40 : decode cX7_odds 40 = .ok (.goto 5, 3) := by decide +kernel
theorem dX7_odds_43 : decode cX7_odds 43 = .ok (.bipush (-102), 2) := by decide +kernel
theorem dX7_odds_45 : decode cX7_odds 45 = .ok (.ireturn, 1) := by decide +kernel
theorem dX7_whereOf_0 : decode cX7_whereOf 0 = .ok (.aload_n 0, 1) := by decide +kernel
theorem dX7_whereOf_1 : decode cX7_whereOf 1 = .ok (.iload_n 1, 1) := by decide +kernel
theorem dX7_whereOf_2 : decode cX7_whereOf 2 = .ok (.iload_n 2, 1) := by decide +kernel
theorem dX7_whereOf_3 : decode cX7_whereOf 3 = .ok (.invokevirtual 153, 3) := by decide +kernel
theorem dX7_whereOf_6 : decode cX7_whereOf 6 = .ok (.istore_n 3, 1) := by decide +kernel
theorem dX7_whereOf_7 : decode cX7_whereOf 7 = .ok (.iconst (-1), 1) := by decide +kernel
theorem dX7_whereOf_8 : decode cX7_whereOf 8 = .ok (.istore 4, 2) := by decide +kernel
theorem dX7_whereOf_10 : decode cX7_whereOf 10 = .ok (.iconst 0, 1) := by decide +kernel
theorem dX7_whereOf_11 : decode cX7_whereOf 11 = .ok (.istore 5, 2) := by decide +kernel
theorem dX7_whereOf_13 : decode cX7_whereOf 13 = .ok (.iload 5, 2) := by decide +kernel
theorem dX7_whereOf_15 : decode cX7_whereOf 15 = .ok (.bipush 6, 2) := by decide +kernel
theorem dX7_whereOf_17 : decode cX7_whereOf 17 = .ok (.if_icmp .ge 83, 3) := by decide +kernel
theorem dX7_whereOf_20 : decode cX7_whereOf 20 = .ok (.aload_n 0, 1) := by decide +kernel
theorem dX7_whereOf_21 : decode cX7_whereOf 21 = .ok (.iload_n 1, 1) := by decide +kernel
theorem dX7_whereOf_22 : decode cX7_whereOf 22 = .ok (.iload 5, 2) := by decide +kernel
theorem dX7_whereOf_24 : decode cX7_whereOf 24 = .ok (.invokevirtual 126, 3) := by decide +kernel
theorem dX7_whereOf_27 : decode cX7_whereOf 27 = .ok (.ifCond .eq 67, 3) := by decide +kernel
theorem dX7_whereOf_30 : decode cX7_whereOf 30 = .ok (.aload_n 0, 1) := by decide +kernel
theorem dX7_whereOf_31 : decode cX7_whereOf 31 = .ok (.getfield 19, 3) := by decide +kernel
theorem dX7_whereOf_34 : decode cX7_whereOf 34 = .ok (.iload_n 1, 1) := by decide +kernel
theorem dX7_whereOf_35 : decode cX7_whereOf 35 = .ok (.dup2, 1) := by decide +kernel
theorem dX7_whereOf_36 : decode cX7_whereOf 36 = .ok (.iaload, 1) := by decide +kernel
theorem dX7_whereOf_37 : decode cX7_whereOf 37 = .ok (.iconst 1, 1) := by decide +kernel
theorem dX7_whereOf_38 : decode cX7_whereOf 38 = .ok (.iload 5, 2) := by decide +kernel
theorem dX7_whereOf_40 : decode cX7_whereOf 40 = .ok (.ishl, 1) := by decide +kernel
theorem dX7_whereOf_41 : decode cX7_whereOf 41 = .ok (.ior, 1) := by decide +kernel
theorem dX7_whereOf_42 : decode cX7_whereOf 42 = .ok (.iastore, 1) := by decide +kernel
theorem dX7_whereOf_43 : decode cX7_whereOf 43 = .ok (.aload_n 0, 1) := by decide +kernel
theorem dX7_whereOf_44 : decode cX7_whereOf 44 = .ok (.iload_n 1, 1) := by decide +kernel
theorem dX7_whereOf_45 : decode cX7_whereOf 45 = .ok (.iload_n 2, 1) := by decide +kernel
theorem dX7_whereOf_46 : decode cX7_whereOf 46 = .ok (.invokevirtual 153, 3) := by decide +kernel
theorem dX7_whereOf_49 : decode cX7_whereOf 49 = .ok (.istore 6, 2) := by decide +kernel
theorem dX7_whereOf_51 : decode cX7_whereOf 51 = .ok (.aload_n 0, 1) := by decide +kernel
theorem dX7_whereOf_52 : decode cX7_whereOf 52 = .ok (.getfield 19, 3) := by decide +kernel
theorem dX7_whereOf_55 : decode cX7_whereOf 55 = .ok (.iload_n 1, 1) := by decide +kernel
theorem dX7_whereOf_56 : decode cX7_whereOf 56 = .ok (.dup2, 1) := by decide +kernel
theorem dX7_whereOf_57 : decode cX7_whereOf 57 = .ok (.iaload, 1) := by decide +kernel
theorem dX7_whereOf_58 : decode cX7_whereOf 58 = .ok (.iconst 1, 1) := by decide +kernel
theorem dX7_whereOf_59 : decode cX7_whereOf 59 = .ok (.iload 5, 2) := by decide +kernel
theorem dX7_whereOf_61 : decode cX7_whereOf 61 = .ok (.ishl, 1) := by decide +kernel
theorem dX7_whereOf_62 : decode cX7_whereOf 62 = .ok (.iconst (-1), 1) := by decide +kernel
theorem dX7_whereOf_63 : decode cX7_whereOf 63 = .ok (.ixor, 1) := by decide +kernel
theorem dX7_whereOf_64 : decode cX7_whereOf 64 = .ok (.iand, 1) := by decide +kernel
theorem dX7_whereOf_65 : decode cX7_whereOf 65 = .ok (.iastore, 1) := by decide +kernel
theorem dX7_whereOf_66 : decode cX7_whereOf 66 = .ok (.iload 6, 2) := by decide +kernel
theorem dX7_whereOf_68 : decode cX7_whereOf 68 = .ok (.iload_n 3, 1) := by decide +kernel
theorem dX7_whereOf_69 : decode cX7_whereOf 69 = .ok (.if_icmp .le 8, 3) := by decide +kernel
theorem dX7_whereOf_72 : decode cX7_whereOf 72 = .ok (.iload 5, 2) := by decide +kernel
theorem dX7_whereOf_74 : decode cX7_whereOf 74 = .ok (.goto 5, 3) := by decide +kernel
theorem dX7_whereOf_77 : decode cX7_whereOf 77 = .ok (.iload 4, 2) := by decide +kernel
theorem dX7_whereOf_79 : decode cX7_whereOf 79 = .ok (.istore 4, 2) := by decide +kernel
theorem dX7_whereOf_81 : decode cX7_whereOf 81 = .ok (.iload 6, 2) := by decide +kernel
theorem dX7_whereOf_83 : decode cX7_whereOf 83 = .ok (.iload_n 3, 1) := by decide +kernel
theorem dX7_whereOf_84 : decode cX7_whereOf 84 = .ok (.if_icmp .le 8, 3) := by decide +kernel
theorem dX7_whereOf_87 : decode cX7_whereOf 87 = .ok (.iload 6, 2) := by decide +kernel
theorem dX7_whereOf_89 : decode cX7_whereOf 89 = .ok (.goto 4, 3) := by decide +kernel
theorem dX7_whereOf_92 : decode cX7_whereOf 92 = .ok (.iload_n 3, 1) := by decide +kernel
theorem dX7_whereOf_93 : decode cX7_whereOf 93 = .ok (.istore_n 3, 1) := by decide +kernel
theorem dX7_whereOf_94 : decode cX7_whereOf 94 = .ok (.iinc 5 1, 3) := by decide +kernel
theorem dX7_whereOf_97 : decode cX7_whereOf 97 = .ok (.goto (-84), 3) := by decide +kernel
theorem dX7_whereOf_100 : decode cX7_whereOf 100 = .ok (.iload 4, 2) := by decide +kernel
theorem dX7_whereOf_102 : decode cX7_whereOf 102 = .ok (.ireturn, 1) := by decide +kernel
theorem dX7_where_0 : decode cX7_where 0 = .ok (.aload_n 0, 1) := by decide +kernel
theorem dX7_where_1 : decode cX7_where 1 = .ok (.iload_n 1, 1) := by decide +kernel
theorem dX7_where_2 : decode cX7_where 2 = .ok (.invokevirtual 117, 3) := by decide +kernel
theorem dX7_where_5 : decode cX7_where 5 = .ok (.ifCond .ne 6, 3) := by decide +kernel
theorem dX7_where_8 : decode cX7_where 8 = .ok (.bipush (-101), 2) := by decide +kernel
theorem dX7_where_10 : decode cX7_where 10 = .ok (.ireturn, 1) := by decide +kernel
theorem dX7_where_11 : decode cX7_where 11 = .ok (.iload_n 2, 1) := by decide +kernel
theorem dX7_where_12 : decode cX7_where 12 = .ok (.i2l, 1) := by decide +kernel
theorem dX7_where_13 : decode cX7_where 13 = .ok (.lconst 0, 1) := by decide +kernel
theorem dX7_where_14 : decode cX7_where 14 = .ok (.ldc2_w 107, 3) := by decide +kernel
theorem dX7_where_17 : decode cX7_where 17 = .ok (.invokestatic 61, 3) := by decide +kernel
theorem dX7_where_20 : decode cX7_where 20 = .ok (.ifCond .eq 12, 3) := by decide +kernel
theorem dX7_where_23 : decode cX7_where 23 = .ok (.aload_n 0, 1) := by decide +kernel
theorem dX7_where_24 : decode cX7_where 24 = .ok (.iload_n 1, 1) := by decide +kernel
theorem dX7_where_25 : decode cX7_where 25 = .ok (.iload_n 2, 1) := by decide +kernel
theorem dX7_where_26 : decode cX7_where 26 = .ok (.invokevirtual 163, 3) := by decide +kernel
theorem dX7_where_29 : decode cX7_where 29 = .ok (.goto 5, 3) := by decide +kernel
theorem dX7_where_32 : decode cX7_where 32 = .ok (.bipush (-102), 2) := by decide +kernel
theorem dX7_where_34 : decode cX7_where 34 = .ok (.ireturn, 1) := by decide +kernel
theorem dX7_isSure_0 : decode cX7_isSure 0 = .ok (.iconst 1, 1) := by decide +kernel
theorem dX7_isSure_1 : decode cX7_isSure 1 = .ok (.istore 4, 2) := by decide +kernel
theorem dX7_isSure_3 : decode cX7_isSure 3 = .ok (.iconst 0, 1) := by decide +kernel
theorem dX7_isSure_4 : decode cX7_isSure 4 = .ok (.istore 5, 2) := by decide +kernel
theorem dX7_isSure_6 : decode cX7_isSure 6 = .ok (.iload 5, 2) := by decide +kernel
theorem dX7_isSure_8 : decode cX7_isSure 8 = .ok (.bipush 6, 2) := by decide +kernel
theorem dX7_isSure_10 : decode cX7_isSure 10 = .ok (.iload_n 3, 1) := by decide +kernel
theorem dX7_isSure_11 : decode cX7_isSure 11 = .ok (.invokestatic 150, 3) := by decide +kernel
theorem dX7_isSure_14 : decode cX7_isSure 14 = .ok (.if_icmp .ge 159, 3) := by decide +kernel
theorem dX7_isSure_17 : decode cX7_isSure 17 = .ok (.iload 4, 2) := by decide +kernel
theorem dX7_isSure_19 : decode cX7_isSure 19 = .ok (.ifCond .eq 154, 3) := by decide +kernel
theorem dX7_isSure_22 : decode cX7_isSure 22 = .ok (.iload 5, 2) := by decide +kernel
theorem dX7_isSure_24 : decode cX7_isSure 24 = .ok (.istore 6, 2) := by decide +kernel
theorem dX7_isSure_26 : decode cX7_isSure 26 = .ok (.iload_n 1, 1) := by decide +kernel
theorem dX7_isSure_27 : decode cX7_isSure 27 = .ok (.istore 7, 2) := by decide +kernel
theorem dX7_isSure_29 : decode cX7_isSure 29 = .ok (.iconst 1, 1) := by decide +kernel
theorem dX7_isSure_30 : decode cX7_isSure 30 = .ok (.istore 8, 2) := by decide +kernel
theorem dX7_isSure_32 : decode cX7_isSure 32 = .ok (.iconst 0, 1) := by decide +kernel
theorem dX7_isSure_33 : decode cX7_isSure 33 = .ok (.istore 9, 2) := by decide +kernel
theorem dX7_isSure_35 : decode cX7_isSure 35 = .ok (.iload 9, 2) := by decide +kernel
theorem dX7_isSure_37 : decode cX7_isSure 37 = .ok (.iload_n 3, 1) := by decide +kernel
theorem dX7_isSure_38 : decode cX7_isSure 38 = .ok (.if_icmp .ge 112, 3) := by decide +kernel
theorem dX7_isSure_41 : decode cX7_isSure 41 = .ok (.iload 6, 2) := by decide +kernel
theorem dX7_isSure_43 : decode cX7_isSure 43 = .ok (.bipush 6, 2) := by decide +kernel
theorem dX7_isSure_45 : decode cX7_isSure 45 = .ok (.irem, 1) := by decide +kernel
theorem dX7_isSure_46 : decode cX7_isSure 46 = .ok (.istore 10, 2) := by decide +kernel
theorem dX7_isSure_48 : decode cX7_isSure 48 = .ok (.iload 6, 2) := by decide +kernel
theorem dX7_isSure_50 : decode cX7_isSure 50 = .ok (.bipush 6, 2) := by decide +kernel
theorem dX7_isSure_52 : decode cX7_isSure 52 = .ok (.idiv, 1) := by decide +kernel
theorem dX7_isSure_53 : decode cX7_isSure 53 = .ok (.istore 6, 2) := by decide +kernel
theorem dX7_isSure_55 : decode cX7_isSure 55 = .ok (.iload 8, 2) := by decide +kernel
theorem dX7_isSure_57 : decode cX7_isSure 57 = .ok (.ifCond .eq 17, 3) := by decide +kernel
theorem dX7_isSure_60 : decode cX7_isSure 60 = .ok (.aload_n 0, 1) := by decide +kernel
theorem dX7_isSure_61 : decode cX7_isSure 61 = .ok (.getfield 13, 3) := by decide +kernel
theorem dX7_isSure_64 : decode cX7_isSure 64 = .ok (.iload 10, 2) := by decide +kernel
theorem dX7_isSure_66 : decode cX7_isSure 66 = .ok (.iaload, 1) := by decide +kernel
theorem dX7_isSure_67 : decode cX7_isSure 67 = .ok (.ifCond .le 7, 3) := by decide +kernel
theorem dX7_isSure_70 : decode cX7_isSure 70 = .ok (.iconst 1, 1) := by decide +kernel
theorem dX7_isSure_71 : decode cX7_isSure 71 = .ok (.goto 4, 3) := by decide +kernel
theorem dX7_isSure_74 : decode cX7_isSure 74 = .ok (.iconst 0, 1) := by decide +kernel
theorem dX7_isSure_75 : decode cX7_isSure 75 = .ok (.istore 8, 2) := by decide +kernel
theorem dX7_isSure_77 : decode cX7_isSure 77 = .ok (.iload 7, 2) := by decide +kernel
theorem dX7_isSure_79 : decode cX7_isSure 79 = .ok (.iload 10, 2) := by decide +kernel
theorem dX7_isSure_81 : decode cX7_isSure 81 = .ok (.ishr, 1) := by decide +kernel
theorem dX7_isSure_82 : decode cX7_isSure 82 = .ok (.iconst 1, 1) := by decide +kernel
theorem dX7_isSure_83 : decode cX7_isSure 83 = .ok (.iand, 1) := by decide +kernel
theorem dX7_isSure_84 : decode cX7_isSure 84 = .ok (.iconst 1, 1) := by decide +kernel
theorem dX7_isSure_85 : decode cX7_isSure 85 = .ok (.if_icmp .ne 7, 3) := by decide +kernel
theorem dX7_isSure_88 : decode cX7_isSure 88 = .ok (.iconst 1, 1) := by decide +kernel
theorem dX7_isSure_89 : decode cX7_isSure 89 = .ok (.goto 4, 3) := by decide +kernel
theorem dX7_isSure_92 : decode cX7_isSure 92 = .ok (.iconst 0, 1) := by decide +kernel
theorem dX7_isSure_93 : decode cX7_isSure 93 = .ok (.istore 11, 2) := by decide +kernel
theorem dX7_isSure_95 : decode cX7_isSure 95 = .ok (.iload 7, 2) := by decide +kernel
theorem dX7_isSure_97 : decode cX7_isSure 97 = .ok (.iload 11, 2) := by decide +kernel
theorem dX7_isSure_99 : decode cX7_isSure 99 = .ok (.ifCond .eq 12, 3) := by decide +kernel
theorem dX7_isSure_102 : decode cX7_isSure 102 = .ok (.iconst 1, 1) := by decide +kernel
theorem dX7_isSure_103 : decode cX7_isSure 103 = .ok (.iload 10, 2) := by decide +kernel
theorem dX7_isSure_105 : decode cX7_isSure 105 = .ok (.ishl, 1) := by decide +kernel
theorem dX7_isSure_106 : decode cX7_isSure 106 = .ok (.iconst (-1), 1) := by decide +kernel
theorem dX7_isSure_107 : decode cX7_isSure 107 = .ok (.ixor, 1) := by decide +kernel
theorem dX7_isSure_108 : decode cX7_isSure 108 = .ok (.goto 4, 3) := by decide +kernel
theorem dX7_isSure_111 : decode cX7_isSure 111 = .ok (.iconst (-1), 1) := by decide +kernel
theorem dX7_isSure_112 : decode cX7_isSure 112 = .ok (.iand, 1) := by decide +kernel
theorem dX7_isSure_113 : decode cX7_isSure 113 = .ok (.istore 7, 2) := by decide +kernel
theorem dX7_isSure_115 : decode cX7_isSure 115 = .ok (.iload 7, 2) := by decide +kernel
theorem dX7_isSure_117 : decode cX7_isSure 117 = .ok (.iload 11, 2) := by decide +kernel
theorem dX7_isSure_119 : decode cX7_isSure 119 = .ok (.ifCond .eq 21, 3) := by decide +kernel
theorem dX7_isSure_122 : decode cX7_isSure 122 = .ok (.iload_n 2, 1) := by decide +kernel
theorem dX7_isSure_123 : decode cX7_isSure 123 = .ok (.ifCond .eq 17, 3) := by decide +kernel
theorem dX7_isSure_126 : decode cX7_isSure 126 = .ok (.iconst 1, 1) := by decide +kernel
theorem dX7_isSure_127 : decode cX7_isSure 127 = .ok (.iload 10, 2) := by decide +kernel
theorem dX7_isSure_129 : decode cX7_isSure 129 = .ok (.iconst 1, 1) := by decide +kernel
theorem dX7_isSure_130 : decode cX7_isSure 130 = .ok (.iadd, 1) := by decide +kernel
theorem dX7_isSure_131 : decode cX7_isSure 131 = .ok (.bipush 6, 2) := by decide +kernel
theorem dX7_isSure_133 : decode cX7_isSure 133 = .ok (.irem, 1) := by decide +kernel
theorem dX7_isSure_134 : decode cX7_isSure 134 = .ok (.ishl, 1) := by decide +kernel
theorem dX7_isSure_135 : decode cX7_isSure 135 = .ok (.iconst (-1), 1) := by decide +kernel
theorem dX7_isSure_136 : decode cX7_isSure 136 = .ok (.ixor, 1) := by decide +kernel
theorem dX7_isSure_137 : decode cX7_isSure 137 = .ok (.goto 4, 3) := by decide +kernel
theorem dX7_isSure_140 : decode cX7_isSure 140 = .ok (.iconst (-1), 1) := by decide +kernel
theorem dX7_isSure_141 : decode cX7_isSure 141 = .ok (.iand, 1) := by decide +kernel
theorem dX7_isSure_142 : decode cX7_isSure 142 = .ok (.istore 7, 2) := by decide +kernel
theorem dX7_isSure_144 : decode cX7_isSure 144 = .ok (.iinc 9 1, 3) := by decide +kernel
theorem dX7_isSure_147 : decode cX7_isSure 147 = .ok (.goto (-112), 3) := by decide +kernel
theorem dX7_isSure_150 : decode cX7_isSure 150 = .ok (.iload 8, 2) := by decide +kernel
theorem dX7_isSure_152 : decode cX7_isSure 152 = .ok (.ifCond .eq 8, 3) := by decide +kernel
theorem dX7_isSure_155 : decode cX7_isSure 155 = .ok (.iload 7, 2) := by decide +kernel
theorem dX7_isSure_157 : decode cX7_isSure 157 = .ok (.ifCond .eq 7, 3) := by decide +kernel
theorem dX7_isSure_160 : decode cX7_isSure 160 = .ok (.iconst 1, 1) := by decide +kernel
theorem dX7_isSure_161 : decode cX7_isSure 161 = .ok (.goto 4, 3) := by decide +kernel
theorem dX7_isSure_164 : decode cX7_isSure 164 = .ok (.iconst 0, 1) := by decide +kernel
theorem dX7_isSure_165 : decode cX7_isSure 165 = .ok (.istore 4, 2) := by decide +kernel
theorem dX7_isSure_167 : decode cX7_isSure 167 = .ok (.iinc 5 1, 3) := by decide +kernel
theorem dX7_isSure_170 : decode cX7_isSure 170 = .ok (.goto (-164), 3) := by decide +kernel
theorem dX7_isSure_173 : decode cX7_isSure 173 = .ok (.iload 4, 2) := by decide +kernel
theorem dX7_isSure_175 : decode cX7_isSure 175 = .ok (.ireturn, 1) := by decide +kernel
theorem dX7_sure_0 : decode cX7_sure 0 = .ok (.iload_n 1, 1) := by decide +kernel
theorem dX7_sure_1 : decode cX7_sure 1 = .ok (.ifCond .eq 13, 3) := by decide +kernel
theorem dX7_sure_4 : decode cX7_sure 4 = .ok (.iload_n 1, 1) := by decide +kernel
theorem dX7_sure_5 : decode cX7_sure 5 = .ok (.iconst 3, 1) := by decide +kernel
theorem dX7_sure_6 : decode cX7_sure 6 = .ok (.if_icmp .eq 8, 3) := by decide +kernel
theorem dX7_sure_9 : decode cX7_sure 9 = .ok (.iload_n 1, 1) := by decide +kernel
theorem dX7_sure_10 : decode cX7_sure 10 = .ok (.iconst 4, 1) := by decide +kernel
theorem dX7_sure_11 : decode cX7_sure 11 = .ok (.if_icmp .ne 25, 3) := by decide +kernel
theorem dX7_sure_14 : decode cX7_sure 14 = .ok (.iload_n 2, 1) := by decide +kernel
theorem dX7_sure_15 : decode cX7_sure 15 = .ok (.i2l, 1) := by decide +kernel
theorem dX7_sure_16 : decode cX7_sure 16 = .ok (.lconst 0, 1) := by decide +kernel
theorem dX7_sure_17 : decode cX7_sure 17 = .ok (.ldc2_w 107, 3) := by decide +kernel
theorem dX7_sure_20 : decode cX7_sure 20 = .ok (.invokestatic 61, 3) := by decide +kernel
theorem dX7_sure_23 : decode cX7_sure 23 = .ok (.ifCond .eq 13, 3) := by decide +kernel
theorem dX7_sure_26 : decode cX7_sure 26 = .ok (.iload_n 3, 1) := by decide +kernel
theorem dX7_sure_27 : decode cX7_sure 27 = .ok (.i2l, 1) := by decide +kernel
theorem dX7_sure_28 : decode cX7_sure 28 = .ok (.lconst 0, 1) := by decide +kernel
theorem dX7_sure_29 : decode cX7_sure 29 = .ok (.lconst 1, 1) := by decide +kernel
theorem dX7_sure_30 : decode cX7_sure 30 = .ok (.invokestatic 61, 3) := by decide +kernel
theorem dX7_sure_33 : decode cX7_sure 33 = .ok (.ifCond .ne 6, 3) := by decide +kernel
theorem dX7_sure_36 : decode cX7_sure 36 = .ok (.bipush (-102), 2) := by decide +kernel
theorem dX7_sure_38 : decode cX7_sure 38 = .ok (.ireturn, 1) := by decide +kernel
theorem dX7_sure_39 : decode cX7_sure 39 = .ok (.aload_n 0, 1) := by decide +kernel
theorem dX7_sure_40 : decode cX7_sure 40 = .ok (.invokevirtual 109, 3) := by decide +kernel
theorem dX7_sure_43 : decode cX7_sure 43 = .ok (.ifCond .ne 12, 3) := by decide +kernel
theorem dX7_sure_46 : decode cX7_sure 46 = .ok (.aload_n 0, 1) := by decide +kernel
theorem dX7_sure_47 : decode cX7_sure 47 = .ok (.getfield 166, 3) := by decide +kernel
theorem dX7_sure_50 : decode cX7_sure 50 = .ok (.bipush 30, 2) := by decide +kernel
theorem dX7_sure_52 : decode cX7_sure 52 = .ok (.if_icmp .ne 6, 3) := by decide +kernel
theorem dX7_sure_55 : decode cX7_sure 55 = .ok (.bipush (-103), 2) := by decide +kernel
theorem dX7_sure_57 : decode cX7_sure 57 = .ok (.ireturn, 1) := by decide +kernel
theorem dX7_sure_58 : decode cX7_sure 58 = .ok (.aload_n 0, 1) := by decide +kernel
theorem dX7_sure_59 : decode cX7_sure 59 = .ok (.dup, 1) := by decide +kernel
theorem dX7_sure_60 : decode cX7_sure 60 = .ok (.getfield 166, 3) := by decide +kernel
theorem dX7_sure_63 : decode cX7_sure 63 = .ok (.iconst 1, 1) := by decide +kernel
theorem dX7_sure_64 : decode cX7_sure 64 = .ok (.iadd, 1) := by decide +kernel
theorem dX7_sure_65 : decode cX7_sure 65 = .ok (.putfield 166, 3) := by decide +kernel
theorem dX7_sure_68 : decode cX7_sure 68 = .ok (.iconst 1, 1) := by decide +kernel
theorem dX7_sure_69 : decode cX7_sure 69 = .ok (.istore 4, 2) := by decide +kernel
theorem dX7_sure_71 : decode cX7_sure 71 = .ok (.iload 4, 2) := by decide +kernel
theorem dX7_sure_73 : decode cX7_sure 73 = .ok (.iload_n 1, 1) := by decide +kernel
theorem dX7_sure_74 : decode cX7_sure 74 = .ok (.ifCond .ne 7, 3) := by decide +kernel
theorem dX7_sure_77 : decode cX7_sure 77 = .ok (.iconst 2, 1) := by decide +kernel
theorem dX7_sure_78 : decode cX7_sure 78 = .ok (.goto 4, 3) := by decide +kernel
theorem dX7_sure_81 : decode cX7_sure 81 = .ok (.iconst 3, 1) := by decide +kernel
theorem dX7_sure_82 : decode cX7_sure 82 = .ok (.if_icmp .gt 67, 3) := by decide +kernel
theorem dX7_sure_85 : decode cX7_sure 85 = .ok (.iconst 1, 1) := by decide +kernel
theorem dX7_sure_86 : decode cX7_sure 86 = .ok (.istore 5, 2) := by decide +kernel
theorem dX7_sure_88 : decode cX7_sure 88 = .ok (.iload 5, 2) := by decide +kernel
theorem dX7_sure_90 : decode cX7_sure 90 = .ok (.bipush 64, 2) := by decide +kernel
theorem dX7_sure_92 : decode cX7_sure 92 = .ok (.if_icmp .ge 51, 3) := by decide +kernel
theorem dX7_sure_95 : decode cX7_sure 95 = .ok (.iload 5, 2) := by decide +kernel
theorem dX7_sure_97 : decode cX7_sure 97 = .ok (.invokestatic 123, 3) := by decide +kernel
theorem dX7_sure_100 : decode cX7_sure 100 = .ok (.iload 4, 2) := by decide +kernel
theorem dX7_sure_102 : decode cX7_sure 102 = .ok (.if_icmp .ne 35, 3) := by decide +kernel
theorem dX7_sure_105 : decode cX7_sure 105 = .ok (.aload_n 0, 1) := by decide +kernel
theorem dX7_sure_106 : decode cX7_sure 106 = .ok (.iload 5, 2) := by decide +kernel
theorem dX7_sure_108 : decode cX7_sure 108 = .ok (.iload_n 1, 1) := by decide +kernel
theorem dX7_sure_109 : decode cX7_sure 109 = .ok (.iconst 4, 1) := by decide +kernel
theorem dX7_sure_110 : decode cX7_sure 110 = .ok (.if_icmp .ne 7, 3) := by decide +kernel
theorem dX7_sure_113 : decode cX7_sure 113 = .ok (.iconst 1, 1) := by decide +kernel
theorem dX7_sure_114 : decode cX7_sure 114 = .ok (.goto 4, 3) := by decide +kernel
theorem dX7_sure_117 : decode cX7_sure 117 = .ok (.iconst 0, 1) := by decide +kernel
theorem dX7_sure_118 : decode cX7_sure 118 = .ok (.iload_n 2, 1) := by decide +kernel
theorem dX7_sure_119 : decode cX7_sure 119 = .ok (.invokevirtual 169, 3) := by decide +kernel
theorem dX7_sure_122 : decode cX7_sure 122 = .ok (.ifCond .eq 15, 3) := by decide +kernel
theorem dX7_sure_125 : decode cX7_sure 125 = .ok (.iload_n 3, 1) := by decide +kernel
theorem dX7_sure_126 : decode cX7_sure 126 = .ok (.ifCond .ne 8, 3) := by decide +kernel
theorem dX7_sure_129 : decode cX7_sure 129 = .ok (.iload 4, 2) := by decide +kernel
theorem dX7_sure_131 : decode cX7_sure 131 = .ok (.goto 5, 3) := by decide +kernel
theorem dX7_sure_134 : decode cX7_sure 134 = .ok (.iload 5, 2) := by decide +kernel
theorem dX7_sure_136 : decode cX7_sure 136 = .ok (.ireturn, 1) := by decide +kernel
theorem dX7_sure_137 : decode cX7_sure 137 = .ok (.iinc 5 1, 3) := by decide +kernel
theorem dX7_sure_140 : decode cX7_sure 140 = .ok (.goto (-52), 3) := by decide +kernel
theorem dX7_sure_143 : decode cX7_sure 143 = .ok (.iinc 4 1, 3) := by decide +kernel
theorem dX7_sure_146 : decode cX7_sure 146 = .ok (.goto (-75), 3) := by decide +kernel
theorem dX7_sure_149 : decode cX7_sure 149 = .ok (.iconst (-1), 1) := by decide +kernel
theorem dX7_sure_150 : decode cX7_sure 150 = .ok (.ireturn, 1) := by decide +kernel
theorem dX7_nowhereOf_0 : decode cX7_nowhereOf 0 = .ok (.iconst 0, 1) := by decide +kernel
theorem dX7_nowhereOf_1 : decode cX7_nowhereOf 1 = .ok (.istore_n 1, 1) := by decide +kernel
theorem dX7_nowhereOf_2 : decode cX7_nowhereOf 2 = .ok (.iconst 0, 1) := by decide +kernel
theorem dX7_nowhereOf_3 : decode cX7_nowhereOf 3 = .ok (.istore_n 2, 1) := by decide +kernel
theorem dX7_nowhereOf_4 : decode cX7_nowhereOf 4 = .ok (.iload_n 2, 1) := by decide +kernel
theorem dX7_nowhereOf_5 : decode cX7_nowhereOf 5 = .ok (.aload_n 0, 1) := by decide +kernel
theorem dX7_nowhereOf_6 : decode cX7_nowhereOf 6 = .ok (.getfield 81, 3) := by decide +kernel
theorem dX7_nowhereOf_9 : decode cX7_nowhereOf 9 = .ok (.if_icmp .ge 53, 3) := by decide +kernel
theorem dX7_nowhereOf_12 : decode cX7_nowhereOf 12 = .ok (.aload_n 0, 1) := by decide +kernel
theorem dX7_nowhereOf_13 : decode cX7_nowhereOf 13 = .ok (.getfield 16, 3) := by decide +kernel
theorem dX7_nowhereOf_16 : decode cX7_nowhereOf 16 = .ok (.iconst 2, 1) := by decide +kernel
theorem dX7_nowhereOf_17 : decode cX7_nowhereOf 17 = .ok (.iload_n 2, 1) := by decide +kernel
theorem dX7_nowhereOf_18 : decode cX7_nowhereOf 18 = .ok (.imul, 1) := by decide +kernel
theorem dX7_nowhereOf_19 : decode cX7_nowhereOf 19 = .ok (.iconst 1, 1) := by decide +kernel
theorem dX7_nowhereOf_20 : decode cX7_nowhereOf 20 = .ok (.iadd, 1) := by decide +kernel
theorem dX7_nowhereOf_21 : decode cX7_nowhereOf 21 = .ok (.iaload, 1) := by decide +kernel
theorem dX7_nowhereOf_22 : decode cX7_nowhereOf 22 = .ok (.istore_n 3, 1) := by decide +kernel
theorem dX7_nowhereOf_23 : decode cX7_nowhereOf 23 = .ok (.iload_n 1, 1) := by decide +kernel
theorem dX7_nowhereOf_24 : decode cX7_nowhereOf 24 = .ok (.aload_n 0, 1) := by decide +kernel
theorem dX7_nowhereOf_25 : decode cX7_nowhereOf 25 = .ok (.getfield 19, 3) := by decide +kernel
theorem dX7_nowhereOf_28 : decode cX7_nowhereOf 28 = .ok (.iload_n 2, 1) := by decide +kernel
theorem dX7_nowhereOf_29 : decode cX7_nowhereOf 29 = .ok (.iaload, 1) := by decide +kernel
theorem dX7_nowhereOf_30 : decode cX7_nowhereOf 30 = .ok (.ifCond .eq 23, 3) := by decide +kernel
theorem dX7_nowhereOf_33 : decode cX7_nowhereOf 33 = .ok (.iload_n 3, 1) := by decide +kernel
theorem dX7_nowhereOf_34 : decode cX7_nowhereOf 34 = .ok (.iconst (-1), 1) := by decide +kernel
theorem dX7_nowhereOf_35 : decode cX7_nowhereOf 35 = .ok (.if_icmp .eq 18, 3) := by decide +kernel
theorem dX7_nowhereOf_38 : decode cX7_nowhereOf 38 = .ok (.aload_n 0, 1) := by decide +kernel
theorem dX7_nowhereOf_39 : decode cX7_nowhereOf 39 = .ok (.getfield 19, 3) := by decide +kernel
theorem dX7_nowhereOf_42 : decode cX7_nowhereOf 42 = .ok (.iload_n 3, 1) := by decide +kernel
theorem dX7_nowhereOf_43 : decode cX7_nowhereOf 43 = .ok (.iaload, 1) := by decide +kernel
theorem dX7_nowhereOf_44 : decode cX7_nowhereOf 44 = .ok (.ifCond .ne 9, 3) := by decide +kernel
theorem dX7_nowhereOf_47 : decode cX7_nowhereOf 47 = .ok (.iconst 1, 1) := by decide +kernel
theorem dX7_nowhereOf_48 : decode cX7_nowhereOf 48 = .ok (.iload_n 2, 1) := by decide +kernel
theorem dX7_nowhereOf_49 : decode cX7_nowhereOf 49 = .ok (.ishl, 1) := by decide +kernel
theorem dX7_nowhereOf_50 : decode cX7_nowhereOf 50 = .ok (.goto 4, 3) := by decide +kernel
theorem dX7_nowhereOf_53 : decode cX7_nowhereOf 53 = .ok (.iconst 0, 1) := by decide +kernel
theorem dX7_nowhereOf_54 : decode cX7_nowhereOf 54 = .ok (.ior, 1) := by decide +kernel
theorem dX7_nowhereOf_55 : decode cX7_nowhereOf 55 = .ok (.istore_n 1, 1) := by decide +kernel
theorem dX7_nowhereOf_56 : decode cX7_nowhereOf 56 = .ok (.iinc 2 1, 3) := by decide +kernel
theorem dX7_nowhereOf_59 : decode cX7_nowhereOf 59 = .ok (.goto (-55), 3) := by decide +kernel
theorem dX7_nowhereOf_62 : decode cX7_nowhereOf 62 = .ok (.iload_n 1, 1) := by decide +kernel
theorem dX7_nowhereOf_63 : decode cX7_nowhereOf 63 = .ok (.ireturn, 1) := by decide +kernel
theorem dX7_nowhere_0 : decode cX7_nowhere 0 = .ok (.aload_n 0, 1) := by decide +kernel
theorem dX7_nowhere_1 : decode cX7_nowhere 1 = .ok (.invokevirtual 173, 3) := by decide +kernel
theorem dX7_nowhere_4 : decode cX7_nowhere 4 = .ok (.ireturn, 1) := by decide +kernel
theorem dX7_above_0 : decode cX7_above 0 = .ok (.iconst 0, 1) := by decide +kernel
theorem dX7_above_1 : decode cX7_above 1 = .ok (.istore_n 2, 1) := by decide +kernel
theorem dX7_above_2 : decode cX7_above 2 = .ok (.iconst 0, 1) := by decide +kernel
theorem dX7_above_3 : decode cX7_above 3 = .ok (.istore_n 3, 1) := by decide +kernel
theorem dX7_above_4 : decode cX7_above 4 = .ok (.iload_n 3, 1) := by decide +kernel
theorem dX7_above_5 : decode cX7_above 5 = .ok (.bipush 6, 2) := by decide +kernel
theorem dX7_above_7 : decode cX7_above 7 = .ok (.if_icmp .ge 37, 3) := by decide +kernel
theorem dX7_above_10 : decode cX7_above 10 = .ok (.aload_n 0, 1) := by decide +kernel
theorem dX7_above_11 : decode cX7_above 11 = .ok (.aload_n 0, 1) := by decide +kernel
theorem dX7_above_12 : decode cX7_above 12 = .ok (.getfield 25, 3) := by decide +kernel
theorem dX7_above_15 : decode cX7_above 15 = .ok (.iload_n 3, 1) := by decide +kernel
theorem dX7_above_16 : decode cX7_above 16 = .ok (.invokevirtual 95, 3) := by decide +kernel
theorem dX7_above_19 : decode cX7_above 19 = .ok (.istore 4, 2) := by decide +kernel
theorem dX7_above_21 : decode cX7_above 21 = .ok (.iload_n 2, 1) := by decide +kernel
theorem dX7_above_22 : decode cX7_above 22 = .ok (.iload 4, 2) := by decide +kernel
theorem dX7_above_24 : decode cX7_above 24 = .ok (.iload_n 1, 1) := by decide +kernel
theorem dX7_above_25 : decode cX7_above 25 = .ok (.if_icmp .le 10, 3) := by decide +kernel
theorem dX7_above_28 : decode cX7_above 28 = .ok (.iload 4, 2) := by decide +kernel
theorem dX7_above_30 : decode cX7_above 30 = .ok (.iload_n 1, 1) := by decide +kernel
theorem dX7_above_31 : decode cX7_above 31 = .ok (.isub, 1) := by decide +kernel
theorem dX7_above_32 : decode cX7_above 32 = .ok (.goto 4, 3) := by decide +kernel
theorem dX7_above_35 : decode cX7_above 35 = .ok (.iconst 0, 1) := by decide +kernel
theorem dX7_above_36 : decode cX7_above 36 = .ok (.iadd, 1) := by decide +kernel
theorem dX7_above_37 : decode cX7_above 37 = .ok (.istore_n 2, 1) := by decide +kernel
theorem dX7_above_38 : decode cX7_above 38 = .ok (.iinc 3 1, 3) := by decide +kernel
theorem dX7_above_41 : decode cX7_above 41 = .ok (.goto (-37), 3) := by decide +kernel
theorem dX7_above_44 : decode cX7_above 44 = .ok (.iload_n 2, 1) := by decide +kernel
theorem dX7_above_45 : decode cX7_above 45 = .ok (.ireturn, 1) := by decide +kernel
theorem dX7_renameNow_0 : decode cX7_renameNow 0 = .ok (.aload_n 0, 1) := by decide +kernel
theorem dX7_renameNow_1 : decode cX7_renameNow 1 = .ok (.getfield 25, 3) := by decide +kernel
theorem dX7_renameNow_4 : decode cX7_renameNow 4 = .ok (.iload_n 1, 1) := by decide +kernel
theorem dX7_renameNow_5 : decode cX7_renameNow 5 = .ok (.aload_n 0, 1) := by decide +kernel
theorem dX7_renameNow_6 : decode cX7_renameNow 6 = .ok (.getfield 25, 3) := by decide +kernel
theorem dX7_renameNow_9 : decode cX7_renameNow 9 = .ok (.iload_n 1, 1) := by decide +kernel
theorem dX7_renameNow_10 : decode cX7_renameNow 10 = .ok (.iaload, 1) := by decide +kernel
theorem dX7_renameNow_11 : decode cX7_renameNow 11 = .ok (.iconst 1, 1) := by decide +kernel
theorem dX7_renameNow_12 : decode cX7_renameNow 12 = .ok (.iload_n 2, 1) := by decide +kernel
theorem dX7_renameNow_13 : decode cX7_renameNow 13 = .ok (.ishl, 1) := by decide +kernel
theorem dX7_renameNow_14 : decode cX7_renameNow 14 = .ok (.iconst (-1), 1) := by decide +kernel
theorem dX7_renameNow_15 : decode cX7_renameNow 15 = .ok (.ixor, 1) := by decide +kernel
theorem dX7_renameNow_16 : decode cX7_renameNow 16 = .ok (.iand, 1) := by decide +kernel
theorem dX7_renameNow_17 : decode cX7_renameNow 17 = .ok (.iconst 1, 1) := by decide +kernel
theorem dX7_renameNow_18 : decode cX7_renameNow 18 = .ok (.iload_n 3, 1) := by decide +kernel
theorem dX7_renameNow_19 : decode cX7_renameNow 19 = .ok (.ishl, 1) := by decide +kernel
theorem dX7_renameNow_20 : decode cX7_renameNow 20 = .ok (.ior, 1) := by decide +kernel
theorem dX7_renameNow_21 : decode cX7_renameNow 21 = .ok (.iastore, 1) := by decide +kernel
theorem dX7_renameNow_22 : decode cX7_renameNow 22 = .ok (.return_, 1) := by decide +kernel
theorem dX7_isMovedBy_0 : decode cX7_isMovedBy 0 = .ok (.aload_n 0, 1) := by decide +kernel
theorem dX7_isMovedBy_1 : decode cX7_isMovedBy 1 = .ok (.invokevirtual 144, 3) := by decide +kernel
theorem dX7_isMovedBy_4 : decode cX7_isMovedBy 4 = .ok (.iconst 0, 1) := by decide +kernel
theorem dX7_isMovedBy_5 : decode cX7_isMovedBy 5 = .ok (.istore_n 3, 1) := by decide +kernel
theorem dX7_isMovedBy_6 : decode cX7_isMovedBy 6 = .ok (.aload_n 0, 1) := by decide +kernel
theorem dX7_isMovedBy_7 : decode cX7_isMovedBy 7 = .ok (.getfield 34, 3) := by decide +kernel
theorem dX7_isMovedBy_10 : decode cX7_isMovedBy 10 = .ok (.iconst 0, 1) := by decide +kernel
theorem dX7_isMovedBy_11 : decode cX7_isMovedBy 11 = .ok (.iconst 0, 1) := by decide +kernel
theorem dX7_isMovedBy_12 : decode cX7_isMovedBy 12 = .ok (.iastore, 1) := by decide +kernel
theorem dX7_isMovedBy_13 : decode cX7_isMovedBy 13 = .ok (.aload_n 0, 1) := by decide +kernel
theorem dX7_isMovedBy_14 : decode cX7_isMovedBy 14 = .ok (.iload_n 2, 1) := by decide +kernel
theorem dX7_isMovedBy_15 : decode cX7_isMovedBy 15 = .ok (.invokevirtual 176, 3) := by decide +kernel
theorem dX7_isMovedBy_18 : decode cX7_isMovedBy 18 = .ok (.iload_n 1, 1) := by decide +kernel
theorem dX7_isMovedBy_19 : decode cX7_isMovedBy 19 = .ok (.if_icmp .le 5, 3) := by decide +kernel
theorem dX7_isMovedBy_22 : decode cX7_isMovedBy 22 = .ok (.iconst 0, 1) := by decide +kernel
theorem dX7_isMovedBy_23 : decode cX7_isMovedBy 23 = .ok (.ireturn, 1) := by decide +kernel
theorem dX7_isMovedBy_24 : decode cX7_isMovedBy 24 = .ok (.iload_n 3, 1) := by decide +kernel
theorem dX7_isMovedBy_25 : decode cX7_isMovedBy 25 = .ok (.ifCond .lt 204, 3) := by decide +kernel
theorem dX7_isMovedBy_28 : decode cX7_isMovedBy 28 = .ok (.aload_n 0, 1) := by decide +kernel
theorem dX7_isMovedBy_29 : decode cX7_isMovedBy 29 = .ok (.iload_n 2, 1) := by decide +kernel
theorem dX7_isMovedBy_30 : decode cX7_isMovedBy 30 = .ok (.invokevirtual 176, 3) := by decide +kernel
theorem dX7_isMovedBy_33 : decode cX7_isMovedBy 33 = .ok (.istore 4, 2) := by decide +kernel
theorem dX7_isMovedBy_35 : decode cX7_isMovedBy 35 = .ok (.iload 4, 2) := by decide +kernel
theorem dX7_isMovedBy_37 : decode cX7_isMovedBy 37 = .ok (.ifCond .ne 5, 3) := by decide +kernel
theorem dX7_isMovedBy_40 : decode cX7_isMovedBy 40 = .ok (.iconst 1, 1) := by decide +kernel
end
section
theorem dX7_isMovedBy_41 : decode cX7_isMovedBy 41 = .ok (.ireturn, 1) := by decide +kernel
theorem dX7_isMovedBy_42 : decode cX7_isMovedBy 42 = .ok (.iconst 0, 1) := by decide +kernel
theorem dX7_isMovedBy_43 : decode cX7_isMovedBy 43 = .ok (.istore 5, 2) := by decide +kernel
theorem dX7_isMovedBy_45 : decode cX7_isMovedBy 45 = .ok (.iload_n 3, 1) := by decide +kernel
theorem dX7_isMovedBy_46 : decode cX7_isMovedBy 46 = .ok (.iload_n 1, 1) := by decide +kernel
theorem dX7_isMovedBy_47 : decode cX7_isMovedBy 47 = .ok (.if_icmp .ge 122, 3) := by decide +kernel
theorem dX7_isMovedBy_50 : decode cX7_isMovedBy 50 = .ok (.iload 4, 2) := by decide +kernel
theorem dX7_isMovedBy_52 : decode cX7_isMovedBy 52 = .ok (.iload_n 1, 1) := by decide +kernel
theorem dX7_isMovedBy_53 : decode cX7_isMovedBy 53 = .ok (.iload_n 3, 1) := by decide +kernel
theorem dX7_isMovedBy_54 : decode cX7_isMovedBy 54 = .ok (.isub, 1) := by decide +kernel
theorem dX7_isMovedBy_55 : decode cX7_isMovedBy 55 = .ok (.if_icmp .gt 114, 3) := by decide +kernel
theorem dX7_isMovedBy_58 : decode cX7_isMovedBy 58 = .ok (.aload_n 0, 1) := by decide +kernel
theorem dX7_isMovedBy_59 : decode cX7_isMovedBy 59 = .ok (.getfield 34, 3) := by decide +kernel
theorem dX7_isMovedBy_62 : decode cX7_isMovedBy 62 = .ok (.iload_n 3, 1) := by decide +kernel
theorem dX7_isMovedBy_63 : decode cX7_isMovedBy 63 = .ok (.iaload, 1) := by decide +kernel
theorem dX7_isMovedBy_64 : decode cX7_isMovedBy 64 = .ok (.bipush 36, 2) := by decide +kernel
theorem dX7_isMovedBy_66 : decode cX7_isMovedBy 66 = .ok (.aload_n 0, 1) := by decide +kernel
theorem dX7_isMovedBy_67 : decode cX7_isMovedBy 67 = .ok (.getfield 81, 3) := by decide +kernel
theorem dX7_isMovedBy_70 : decode cX7_isMovedBy 70 = .ok (.imul, 1) := by decide +kernel
theorem dX7_isMovedBy_71 : decode cX7_isMovedBy 71 = .ok (.if_icmp .ge 98, 3) := by decide +kernel
theorem dX7_isMovedBy_74 : decode cX7_isMovedBy 74 = .ok (.iload 5, 2) := by decide +kernel
theorem dX7_isMovedBy_76 : decode cX7_isMovedBy 76 = .ok (.ifCond .ne 93, 3) := by decide +kernel
theorem dX7_isMovedBy_79 : decode cX7_isMovedBy 79 = .ok (.aload_n 0, 1) := by decide +kernel
theorem dX7_isMovedBy_80 : decode cX7_isMovedBy 80 = .ok (.getfield 34, 3) := by decide +kernel
theorem dX7_isMovedBy_83 : decode cX7_isMovedBy 83 = .ok (.iload_n 3, 1) := by decide +kernel
theorem dX7_isMovedBy_84 : decode cX7_isMovedBy 84 = .ok (.iaload, 1) := by decide +kernel
theorem dX7_isMovedBy_85 : decode cX7_isMovedBy 85 = .ok (.istore 6, 2) := by decide +kernel
theorem dX7_isMovedBy_87 : decode cX7_isMovedBy 87 = .ok (.iload 6, 2) := by decide +kernel
theorem dX7_isMovedBy_89 : decode cX7_isMovedBy 89 = .ok (.bipush 6, 2) := by decide +kernel
theorem dX7_isMovedBy_91 : decode cX7_isMovedBy 91 = .ok (.idiv, 1) := by decide +kernel
theorem dX7_isMovedBy_92 : decode cX7_isMovedBy 92 = .ok (.bipush 6, 2) := by decide +kernel
theorem dX7_isMovedBy_94 : decode cX7_isMovedBy 94 = .ok (.irem, 1) := by decide +kernel
theorem dX7_isMovedBy_95 : decode cX7_isMovedBy 95 = .ok (.istore 7, 2) := by decide +kernel
theorem dX7_isMovedBy_97 : decode cX7_isMovedBy 97 = .ok (.iload 6, 2) := by decide +kernel
theorem dX7_isMovedBy_99 : decode cX7_isMovedBy 99 = .ok (.bipush 6, 2) := by decide +kernel
theorem dX7_isMovedBy_101 : decode cX7_isMovedBy 101 = .ok (.irem, 1) := by decide +kernel
theorem dX7_isMovedBy_102 : decode cX7_isMovedBy 102 = .ok (.istore 8, 2) := by decide +kernel
theorem dX7_isMovedBy_104 : decode cX7_isMovedBy 104 = .ok (.iload 7, 2) := by decide +kernel
theorem dX7_isMovedBy_106 : decode cX7_isMovedBy 106 = .ok (.iload 8, 2) := by decide +kernel
theorem dX7_isMovedBy_108 : decode cX7_isMovedBy 108 = .ok (.if_icmp .eq 27, 3) := by decide +kernel
theorem dX7_isMovedBy_111 : decode cX7_isMovedBy 111 = .ok (.aload_n 0, 1) := by decide +kernel
theorem dX7_isMovedBy_112 : decode cX7_isMovedBy 112 = .ok (.aload_n 0, 1) := by decide +kernel
theorem dX7_isMovedBy_113 : decode cX7_isMovedBy 113 = .ok (.getfield 25, 3) := by decide +kernel
theorem dX7_isMovedBy_116 : decode cX7_isMovedBy 116 = .ok (.iload 6, 2) := by decide +kernel
theorem dX7_isMovedBy_118 : decode cX7_isMovedBy 118 = .ok (.bipush 36, 2) := by decide +kernel
theorem dX7_isMovedBy_120 : decode cX7_isMovedBy 120 = .ok (.idiv, 1) := by decide +kernel
theorem dX7_isMovedBy_121 : decode cX7_isMovedBy 121 = .ok (.iload 7, 2) := by decide +kernel
theorem dX7_isMovedBy_123 : decode cX7_isMovedBy 123 = .ok (.iload 8, 2) := by decide +kernel
theorem dX7_isMovedBy_125 : decode cX7_isMovedBy 125 = .ok (.invokevirtual 130, 3) := by decide +kernel
theorem dX7_isMovedBy_128 : decode cX7_isMovedBy 128 = .ok (.ifCond .eq 7, 3) := by decide +kernel
theorem dX7_isMovedBy_131 : decode cX7_isMovedBy 131 = .ok (.iconst 1, 1) := by decide +kernel
theorem dX7_isMovedBy_132 : decode cX7_isMovedBy 132 = .ok (.goto 4, 3) := by decide +kernel
theorem dX7_isMovedBy_135 : decode cX7_isMovedBy 135 = .ok (.iconst 0, 1) := by decide +kernel
theorem dX7_isMovedBy_136 : decode cX7_isMovedBy 136 = .ok (.istore 5, 2) := by decide +kernel
theorem dX7_isMovedBy_138 : decode cX7_isMovedBy 138 = .ok (.aload_n 0, 1) := by decide +kernel
theorem dX7_isMovedBy_139 : decode cX7_isMovedBy 139 = .ok (.getfield 34, 3) := by decide +kernel
theorem dX7_isMovedBy_142 : decode cX7_isMovedBy 142 = .ok (.iload_n 3, 1) := by decide +kernel
theorem dX7_isMovedBy_143 : decode cX7_isMovedBy 143 = .ok (.dup2, 1) := by decide +kernel
theorem dX7_isMovedBy_144 : decode cX7_isMovedBy 144 = .ok (.iaload, 1) := by decide +kernel
theorem dX7_isMovedBy_145 : decode cX7_isMovedBy 145 = .ok (.iconst 1, 1) := by decide +kernel
theorem dX7_isMovedBy_146 : decode cX7_isMovedBy 146 = .ok (.iadd, 1) := by decide +kernel
theorem dX7_isMovedBy_147 : decode cX7_isMovedBy 147 = .ok (.iastore, 1) := by decide +kernel
theorem dX7_isMovedBy_148 : decode cX7_isMovedBy 148 = .ok (.iload 5, 2) := by decide +kernel
theorem dX7_isMovedBy_150 : decode cX7_isMovedBy 150 = .ok (.ifCond .eq 16, 3) := by decide +kernel
theorem dX7_isMovedBy_153 : decode cX7_isMovedBy 153 = .ok (.aload_n 0, 1) := by decide +kernel
theorem dX7_isMovedBy_154 : decode cX7_isMovedBy 154 = .ok (.iload 6, 2) := by decide +kernel
theorem dX7_isMovedBy_156 : decode cX7_isMovedBy 156 = .ok (.bipush 36, 2) := by decide +kernel
theorem dX7_isMovedBy_158 : decode cX7_isMovedBy 158 = .ok (.idiv, 1) := by decide +kernel
theorem dX7_isMovedBy_159 : decode cX7_isMovedBy 159 = .ok (.iload 7, 2) := by decide +kernel
theorem dX7_isMovedBy_161 : decode cX7_isMovedBy 161 = .ok (.iload 8, 2) := by decide +kernel
theorem dX7_isMovedBy_163 : decode cX7_isMovedBy 163 = .ok (.invokevirtual 179, 3) := by decide +kernel
theorem dX7_isMovedBy_166 : decode cX7_isMovedBy 166 = .ok (.goto (-121), 3) := by decide +kernel
theorem dX7_isMovedBy_169 : decode cX7_isMovedBy 169 = .ok (.iload 5, 2) := by decide +kernel
theorem dX7_isMovedBy_171 : decode cX7_isMovedBy 171 = .ok (.ifCond .eq 16, 3) := by decide +kernel
theorem dX7_isMovedBy_174 : decode cX7_isMovedBy 174 = .ok (.iinc 3 1, 3) := by decide +kernel
theorem dX7_isMovedBy_177 : decode cX7_isMovedBy 177 = .ok (.aload_n 0, 1) := by decide +kernel
theorem dX7_isMovedBy_178 : decode cX7_isMovedBy 178 = .ok (.getfield 34, 3) := by decide +kernel
theorem dX7_isMovedBy_181 : decode cX7_isMovedBy 181 = .ok (.iload_n 3, 1) := by decide +kernel
theorem dX7_isMovedBy_182 : decode cX7_isMovedBy 182 = .ok (.iconst 0, 1) := by decide +kernel
theorem dX7_isMovedBy_183 : decode cX7_isMovedBy 183 = .ok (.iastore, 1) := by decide +kernel
theorem dX7_isMovedBy_184 : decode cX7_isMovedBy 184 = .ok (.goto 42, 3) := by decide +kernel
theorem dX7_isMovedBy_187 : decode cX7_isMovedBy 187 = .ok (.iinc 3 (-1), 3) := by decide +kernel
theorem dX7_isMovedBy_190 : decode cX7_isMovedBy 190 = .ok (.iload_n 3, 1) := by decide +kernel
theorem dX7_isMovedBy_191 : decode cX7_isMovedBy 191 = .ok (.ifCond .lt 35, 3) := by decide +kernel
theorem dX7_isMovedBy_194 : decode cX7_isMovedBy 194 = .ok (.aload_n 0, 1) := by decide +kernel
theorem dX7_isMovedBy_195 : decode cX7_isMovedBy 195 = .ok (.getfield 34, 3) := by decide +kernel
theorem dX7_isMovedBy_198 : decode cX7_isMovedBy 198 = .ok (.iload_n 3, 1) := by decide +kernel
theorem dX7_isMovedBy_199 : decode cX7_isMovedBy 199 = .ok (.iaload, 1) := by decide +kernel
theorem dX7_isMovedBy_200 : decode cX7_isMovedBy 200 = .ok (.iconst 1, 1) := by decide +kernel
theorem dX7_isMovedBy_201 : decode cX7_isMovedBy 201 = .ok (.isub, 1) := by decide +kernel
theorem dX7_isMovedBy_202 : decode cX7_isMovedBy 202 = .ok (.istore 6, 2) := by decide +kernel
theorem dX7_isMovedBy_204 : decode cX7_isMovedBy 204 = .ok (.aload_n 0, 1) := by decide +kernel
theorem dX7_isMovedBy_205 : decode cX7_isMovedBy 205 = .ok (.iload 6, 2) := by decide +kernel
theorem dX7_isMovedBy_207 : decode cX7_isMovedBy 207 = .ok (.bipush 36, 2) := by decide +kernel
theorem dX7_isMovedBy_209 : decode cX7_isMovedBy 209 = .ok (.idiv, 1) := by decide +kernel
theorem dX7_isMovedBy_210 : decode cX7_isMovedBy 210 = .ok (.iload 6, 2) := by decide +kernel
theorem dX7_isMovedBy_212 : decode cX7_isMovedBy 212 = .ok (.bipush 6, 2) := by decide +kernel
theorem dX7_isMovedBy_214 : decode cX7_isMovedBy 214 = .ok (.irem, 1) := by decide +kernel
theorem dX7_isMovedBy_215 : decode cX7_isMovedBy 215 = .ok (.iload 6, 2) := by decide +kernel
theorem dX7_isMovedBy_217 : decode cX7_isMovedBy 217 = .ok (.bipush 6, 2) := by decide +kernel
theorem dX7_isMovedBy_219 : decode cX7_isMovedBy 219 = .ok (.idiv, 1) := by decide +kernel
theorem dX7_isMovedBy_220 : decode cX7_isMovedBy 220 = .ok (.bipush 6, 2) := by decide +kernel
theorem dX7_isMovedBy_222 : decode cX7_isMovedBy 222 = .ok (.irem, 1) := by decide +kernel
theorem dX7_isMovedBy_223 : decode cX7_isMovedBy 223 = .ok (.invokevirtual 179, 3) := by decide +kernel
theorem dX7_isMovedBy_226 : decode cX7_isMovedBy 226 = .ok (.goto (-202), 3) := by decide +kernel
theorem dX7_isMovedBy_229 : decode cX7_isMovedBy 229 = .ok (.iconst 0, 1) := by decide +kernel
theorem dX7_isMovedBy_230 : decode cX7_isMovedBy 230 = .ok (.ireturn, 1) := by decide +kernel
theorem dX7_moving_0 : decode cX7_moving 0 = .ok (.iload_n 1, 1) := by decide +kernel
theorem dX7_moving_1 : decode cX7_moving 1 = .ok (.i2l, 1) := by decide +kernel
theorem dX7_moving_2 : decode cX7_moving 2 = .ok (.lconst 1, 1) := by decide +kernel
theorem dX7_moving_3 : decode cX7_moving 3 = .ok (.ldc2_w 68, 3) := by decide +kernel
theorem dX7_moving_6 : decode cX7_moving 6 = .ok (.invokestatic 61, 3) := by decide +kernel
theorem dX7_moving_9 : decode cX7_moving 9 = .ok (.ifCond .ne 6, 3) := by decide +kernel
theorem dX7_moving_12 : decode cX7_moving 12 = .ok (.bipush (-102), 2) := by decide +kernel
theorem dX7_moving_14 : decode cX7_moving 14 = .ok (.ireturn, 1) := by decide +kernel
theorem dX7_moving_15 : decode cX7_moving 15 = .ok (.aload_n 0, 1) := by decide +kernel
theorem dX7_moving_16 : decode cX7_moving 16 = .ok (.invokevirtual 109, 3) := by decide +kernel
theorem dX7_moving_19 : decode cX7_moving 19 = .ok (.ifCond .ne 12, 3) := by decide +kernel
theorem dX7_moving_22 : decode cX7_moving 22 = .ok (.aload_n 0, 1) := by decide +kernel
theorem dX7_moving_23 : decode cX7_moving 23 = .ok (.getfield 183, 3) := by decide +kernel
theorem dX7_moving_26 : decode cX7_moving 26 = .ok (.bipush 10, 2) := by decide +kernel
theorem dX7_moving_28 : decode cX7_moving 28 = .ok (.if_icmp .ne 6, 3) := by decide +kernel
theorem dX7_moving_31 : decode cX7_moving 31 = .ok (.bipush (-103), 2) := by decide +kernel
theorem dX7_moving_33 : decode cX7_moving 33 = .ok (.ireturn, 1) := by decide +kernel
theorem dX7_moving_34 : decode cX7_moving 34 = .ok (.aload_n 0, 1) := by decide +kernel
theorem dX7_moving_35 : decode cX7_moving 35 = .ok (.dup, 1) := by decide +kernel
theorem dX7_moving_36 : decode cX7_moving 36 = .ok (.getfield 183, 3) := by decide +kernel
theorem dX7_moving_39 : decode cX7_moving 39 = .ok (.iconst 1, 1) := by decide +kernel
theorem dX7_moving_40 : decode cX7_moving 40 = .ok (.iadd, 1) := by decide +kernel
theorem dX7_moving_41 : decode cX7_moving 41 = .ok (.putfield 183, 3) := by decide +kernel
theorem dX7_moving_44 : decode cX7_moving 44 = .ok (.iconst 0, 1) := by decide +kernel
theorem dX7_moving_45 : decode cX7_moving 45 = .ok (.istore_n 2, 1) := by decide +kernel
theorem dX7_moving_46 : decode cX7_moving 46 = .ok (.iload_n 2, 1) := by decide +kernel
theorem dX7_moving_47 : decode cX7_moving 47 = .ok (.iconst 4, 1) := by decide +kernel
theorem dX7_moving_48 : decode cX7_moving 48 = .ok (.if_icmp .ge 20, 3) := by decide +kernel
theorem dX7_moving_51 : decode cX7_moving 51 = .ok (.aload_n 0, 1) := by decide +kernel
theorem dX7_moving_52 : decode cX7_moving 52 = .ok (.iload_n 2, 1) := by decide +kernel
theorem dX7_moving_53 : decode cX7_moving 53 = .ok (.iload_n 1, 1) := by decide +kernel
theorem dX7_moving_54 : decode cX7_moving 54 = .ok (.invokevirtual 186, 3) := by decide +kernel
theorem dX7_moving_57 : decode cX7_moving 57 = .ok (.ifCond .eq 5, 3) := by decide +kernel
theorem dX7_moving_60 : decode cX7_moving 60 = .ok (.iload_n 2, 1) := by decide +kernel
theorem dX7_moving_61 : decode cX7_moving 61 = .ok (.ireturn, 1) := by decide +kernel
theorem dX7_moving_62 : decode cX7_moving 62 = .ok (.iinc 2 1, 3) := by decide +kernel
theorem dX7_moving_65 : decode cX7_moving 65 = .ok (.goto (-19), 3) := by decide +kernel
theorem dX7_moving_68 : decode cX7_moving 68 = .ok (.iconst (-1), 1) := by decide +kernel
theorem dX7_moving_69 : decode cX7_moving 69 = .ok (.ireturn, 1) := by decide +kernel
theorem dX7_ashes_0 : decode cX7_ashes 0 = .ok (.iload_n 1, 1) := by decide +kernel
theorem dX7_ashes_1 : decode cX7_ashes 1 = .ok (.i2l, 1) := by decide +kernel
theorem dX7_ashes_2 : decode cX7_ashes 2 = .ok (.ldc2_w 189, 3) := by decide +kernel
theorem dX7_ashes_5 : decode cX7_ashes 5 = .ok (.iconst 1, 1) := by decide +kernel
theorem dX7_ashes_6 : decode cX7_ashes 6 = .ok (.aload_n 0, 1) := by decide +kernel
theorem dX7_ashes_7 : decode cX7_ashes 7 = .ok (.getfield 81, 3) := by decide +kernel
theorem dX7_ashes_10 : decode cX7_ashes 10 = .ok (.ishl, 1) := by decide +kernel
theorem dX7_ashes_11 : decode cX7_ashes 11 = .ok (.iconst 1, 1) := by decide +kernel
theorem dX7_ashes_12 : decode cX7_ashes 12 = .ok (.isub, 1) := by decide +kernel
theorem dX7_ashes_13 : decode cX7_ashes 13 = .ok (.i2l, 1) := by decide +kernel
theorem dX7_ashes_14 : decode cX7_ashes 14 = .ok (.invokestatic 61, 3) := by decide +kernel
theorem dX7_ashes_17 : decode cX7_ashes 17 = .ok (.ifCond .ne 6, 3) := by decide +kernel
theorem dX7_ashes_20 : decode cX7_ashes 20 = .ok (.bipush (-102), 2) := by decide +kernel
theorem dX7_ashes_22 : decode cX7_ashes 22 = .ok (.ireturn, 1) := by decide +kernel
theorem dX7_ashes_23 : decode cX7_ashes 23 = .ok (.aload_n 0, 1) := by decide +kernel
theorem dX7_ashes_24 : decode cX7_ashes 24 = .ok (.getfield 87, 3) := by decide +kernel
theorem dX7_ashes_27 : decode cX7_ashes 27 = .ok (.iconst 5, 1) := by decide +kernel
theorem dX7_ashes_28 : decode cX7_ashes 28 = .ok (.if_icmp .ne 6, 3) := by decide +kernel
theorem dX7_ashes_31 : decode cX7_ashes 31 = .ok (.bipush (-104), 2) := by decide +kernel
theorem dX7_ashes_33 : decode cX7_ashes 33 = .ok (.ireturn, 1) := by decide +kernel
theorem dX7_ashes_34 : decode cX7_ashes 34 = .ok (.aload_n 0, 1) := by decide +kernel
theorem dX7_ashes_35 : decode cX7_ashes 35 = .ok (.getfield 37, 3) := by decide +kernel
theorem dX7_ashes_38 : decode cX7_ashes 38 = .ok (.aload_n 0, 1) := by decide +kernel
theorem dX7_ashes_39 : decode cX7_ashes 39 = .ok (.getfield 87, 3) := by decide +kernel
theorem dX7_ashes_42 : decode cX7_ashes 42 = .ok (.iload_n 1, 1) := by decide +kernel
theorem dX7_ashes_43 : decode cX7_ashes 43 = .ok (.iastore, 1) := by decide +kernel
theorem dX7_ashes_44 : decode cX7_ashes 44 = .ok (.aload_n 0, 1) := by decide +kernel
theorem dX7_ashes_45 : decode cX7_ashes 45 = .ok (.dup, 1) := by decide +kernel
theorem dX7_ashes_46 : decode cX7_ashes 46 = .ok (.getfield 87, 3) := by decide +kernel
theorem dX7_ashes_49 : decode cX7_ashes 49 = .ok (.iconst 1, 1) := by decide +kernel
theorem dX7_ashes_50 : decode cX7_ashes 50 = .ok (.iadd, 1) := by decide +kernel
theorem dX7_ashes_51 : decode cX7_ashes 51 = .ok (.putfield 87, 3) := by decide +kernel
theorem dX7_ashes_54 : decode cX7_ashes 54 = .ok (.aload_n 0, 1) := by decide +kernel
theorem dX7_ashes_55 : decode cX7_ashes 55 = .ok (.getfield 87, 3) := by decide +kernel
theorem dX7_ashes_58 : decode cX7_ashes 58 = .ok (.ireturn, 1) := by decide +kernel
theorem dX7_forget_0 : decode cX7_forget 0 = .ok (.aload_n 0, 1) := by decide +kernel
theorem dX7_forget_1 : decode cX7_forget 1 = .ok (.getfield 87, 3) := by decide +kernel
theorem dX7_forget_4 : decode cX7_forget 4 = .ok (.istore_n 1, 1) := by decide +kernel
theorem dX7_forget_5 : decode cX7_forget 5 = .ok (.aload_n 0, 1) := by decide +kernel
theorem dX7_forget_6 : decode cX7_forget 6 = .ok (.iconst 0, 1) := by decide +kernel
theorem dX7_forget_7 : decode cX7_forget 7 = .ok (.putfield 87, 3) := by decide +kernel
theorem dX7_forget_10 : decode cX7_forget 10 = .ok (.iload_n 1, 1) := by decide +kernel
theorem dX7_forget_11 : decode cX7_forget 11 = .ok (.ireturn, 1) := by decide +kernel
theorem dX7_livesNow_0 : decode cX7_livesNow 0 = .ok (.iconst 0, 1) := by decide +kernel
theorem dX7_livesNow_1 : decode cX7_livesNow 1 = .ok (.istore_n 1, 1) := by decide +kernel
theorem dX7_livesNow_2 : decode cX7_livesNow 2 = .ok (.iconst 0, 1) := by decide +kernel
theorem dX7_livesNow_3 : decode cX7_livesNow 3 = .ok (.istore_n 2, 1) := by decide +kernel
theorem dX7_livesNow_4 : decode cX7_livesNow 4 = .ok (.iload_n 2, 1) := by decide +kernel
theorem dX7_livesNow_5 : decode cX7_livesNow 5 = .ok (.aload_n 0, 1) := by decide +kernel
theorem dX7_livesNow_6 : decode cX7_livesNow 6 = .ok (.getfield 81, 3) := by decide +kernel
theorem dX7_livesNow_9 : decode cX7_livesNow 9 = .ok (.if_icmp .ge 28, 3) := by decide +kernel
theorem dX7_livesNow_12 : decode cX7_livesNow 12 = .ok (.iload_n 1, 1) := by decide +kernel
theorem dX7_livesNow_13 : decode cX7_livesNow 13 = .ok (.aload_n 0, 1) := by decide +kernel
theorem dX7_livesNow_14 : decode cX7_livesNow 14 = .ok (.getfield 25, 3) := by decide +kernel
theorem dX7_livesNow_17 : decode cX7_livesNow 17 = .ok (.iload_n 2, 1) := by decide +kernel
theorem dX7_livesNow_18 : decode cX7_livesNow 18 = .ok (.iaload, 1) := by decide +kernel
theorem dX7_livesNow_19 : decode cX7_livesNow 19 = .ok (.ifCond .eq 9, 3) := by decide +kernel
theorem dX7_livesNow_22 : decode cX7_livesNow 22 = .ok (.iconst 1, 1) := by decide +kernel
theorem dX7_livesNow_23 : decode cX7_livesNow 23 = .ok (.iload_n 2, 1) := by decide +kernel
theorem dX7_livesNow_24 : decode cX7_livesNow 24 = .ok (.ishl, 1) := by decide +kernel
theorem dX7_livesNow_25 : decode cX7_livesNow 25 = .ok (.goto 4, 3) := by decide +kernel
theorem dX7_livesNow_28 : decode cX7_livesNow 28 = .ok (.iconst 0, 1) := by decide +kernel
theorem dX7_livesNow_29 : decode cX7_livesNow 29 = .ok (.ior, 1) := by decide +kernel
theorem dX7_livesNow_30 : decode cX7_livesNow 30 = .ok (.istore_n 1, 1) := by decide +kernel
theorem dX7_livesNow_31 : decode cX7_livesNow 31 = .ok (.iinc 2 1, 3) := by decide +kernel
theorem dX7_livesNow_34 : decode cX7_livesNow 34 = .ok (.goto (-30), 3) := by decide +kernel
theorem dX7_livesNow_37 : decode cX7_livesNow 37 = .ok (.iload_n 1, 1) := by decide +kernel
theorem dX7_livesNow_38 : decode cX7_livesNow 38 = .ok (.ireturn, 1) := by decide +kernel
theorem dX7_isToldBy_0 : decode cX7_isToldBy 0 = .ok (.aload_n 0, 1) := by decide +kernel
theorem dX7_isToldBy_1 : decode cX7_isToldBy 1 = .ok (.invokevirtual 144, 3) := by decide +kernel
theorem dX7_isToldBy_4 : decode cX7_isToldBy 4 = .ok (.iload_n 1, 1) := by decide +kernel
theorem dX7_isToldBy_5 : decode cX7_isToldBy 5 = .ok (.istore_n 2, 1) := by decide +kernel
theorem dX7_isToldBy_6 : decode cX7_isToldBy 6 = .ok (.iconst 1, 1) := by decide +kernel
theorem dX7_isToldBy_7 : decode cX7_isToldBy 7 = .ok (.istore_n 3, 1) := by decide +kernel
theorem dX7_isToldBy_8 : decode cX7_isToldBy 8 = .ok (.iconst 0, 1) := by decide +kernel
theorem dX7_isToldBy_9 : decode cX7_isToldBy 9 = .ok (.istore 4, 2) := by decide +kernel
theorem dX7_isToldBy_11 : decode cX7_isToldBy 11 = .ok (.iload 4, 2) := by decide +kernel
theorem dX7_isToldBy_13 : decode cX7_isToldBy 13 = .ok (.aload_n 0, 1) := by decide +kernel
theorem dX7_isToldBy_14 : decode cX7_isToldBy 14 = .ok (.getfield 87, 3) := by decide +kernel
theorem dX7_isToldBy_17 : decode cX7_isToldBy 17 = .ok (.if_icmp .ge 73, 3) := by decide +kernel
theorem dX7_isToldBy_20 : decode cX7_isToldBy 20 = .ok (.iload_n 3, 1) := by decide +kernel
theorem dX7_isToldBy_21 : decode cX7_isToldBy 21 = .ok (.ifCond .eq 69, 3) := by decide +kernel
theorem dX7_isToldBy_24 : decode cX7_isToldBy 24 = .ok (.iload_n 2, 1) := by decide +kernel
theorem dX7_isToldBy_25 : decode cX7_isToldBy 25 = .ok (.bipush 6, 2) := by decide +kernel
theorem dX7_isToldBy_27 : decode cX7_isToldBy 27 = .ok (.irem, 1) := by decide +kernel
theorem dX7_isToldBy_28 : decode cX7_isToldBy 28 = .ok (.istore 5, 2) := by decide +kernel
theorem dX7_isToldBy_30 : decode cX7_isToldBy 30 = .ok (.iload_n 2, 1) := by decide +kernel
theorem dX7_isToldBy_31 : decode cX7_isToldBy 31 = .ok (.bipush 6, 2) := by decide +kernel
theorem dX7_isToldBy_33 : decode cX7_isToldBy 33 = .ok (.idiv, 1) := by decide +kernel
theorem dX7_isToldBy_34 : decode cX7_isToldBy 34 = .ok (.istore_n 2, 1) := by decide +kernel
theorem dX7_isToldBy_35 : decode cX7_isToldBy 35 = .ok (.aload_n 0, 1) := by decide +kernel
theorem dX7_isToldBy_36 : decode cX7_isToldBy 36 = .ok (.iload 5, 2) := by decide +kernel
theorem dX7_isToldBy_38 : decode cX7_isToldBy 38 = .ok (.invokevirtual 147, 3) := by decide +kernel
theorem dX7_isToldBy_41 : decode cX7_isToldBy 41 = .ok (.istore 6, 2) := by decide +kernel
theorem dX7_isToldBy_43 : decode cX7_isToldBy 43 = .ok (.aload_n 0, 1) := by decide +kernel
theorem dX7_isToldBy_44 : decode cX7_isToldBy 44 = .ok (.getfield 13, 3) := by decide +kernel
theorem dX7_isToldBy_47 : decode cX7_isToldBy 47 = .ok (.iload 5, 2) := by decide +kernel
theorem dX7_isToldBy_49 : decode cX7_isToldBy 49 = .ok (.iaload, 1) := by decide +kernel
theorem dX7_isToldBy_50 : decode cX7_isToldBy 50 = .ok (.ifCond .le 32, 3) := by decide +kernel
theorem dX7_isToldBy_53 : decode cX7_isToldBy 53 = .ok (.aload_n 0, 1) := by decide +kernel
theorem dX7_isToldBy_54 : decode cX7_isToldBy 54 = .ok (.getfield 37, 3) := by decide +kernel
theorem dX7_isToldBy_57 : decode cX7_isToldBy 57 = .ok (.iload 4, 2) := by decide +kernel
theorem dX7_isToldBy_59 : decode cX7_isToldBy 59 = .ok (.iaload, 1) := by decide +kernel
theorem dX7_isToldBy_60 : decode cX7_isToldBy 60 = .ok (.iconst (-1), 1) := by decide +kernel
theorem dX7_isToldBy_61 : decode cX7_isToldBy 61 = .ok (.if_icmp .eq 17, 3) := by decide +kernel
theorem dX7_isToldBy_64 : decode cX7_isToldBy 64 = .ok (.aload_n 0, 1) := by decide +kernel
theorem dX7_isToldBy_65 : decode cX7_isToldBy 65 = .ok (.getfield 37, 3) := by decide +kernel
theorem dX7_isToldBy_68 : decode cX7_isToldBy 68 = .ok (.iload 4, 2) := by decide +kernel
theorem dX7_isToldBy_70 : decode cX7_isToldBy 70 = .ok (.iaload, 1) := by decide +kernel
theorem dX7_isToldBy_71 : decode cX7_isToldBy 71 = .ok (.aload_n 0, 1) := by decide +kernel
theorem dX7_isToldBy_72 : decode cX7_isToldBy 72 = .ok (.invokevirtual 191, 3) := by decide +kernel
theorem dX7_isToldBy_75 : decode cX7_isToldBy 75 = .ok (.if_icmp .ne 7, 3) := by decide +kernel
theorem dX7_isToldBy_78 : decode cX7_isToldBy 78 = .ok (.iconst 1, 1) := by decide +kernel
theorem dX7_isToldBy_79 : decode cX7_isToldBy 79 = .ok (.goto 4, 3) := by decide +kernel
theorem dX7_isToldBy_82 : decode cX7_isToldBy 82 = .ok (.iconst 0, 1) := by decide +kernel
theorem dX7_isToldBy_83 : decode cX7_isToldBy 83 = .ok (.istore_n 3, 1) := by decide +kernel
theorem dX7_isToldBy_84 : decode cX7_isToldBy 84 = .ok (.iinc 4 1, 3) := by decide +kernel
theorem dX7_isToldBy_87 : decode cX7_isToldBy 87 = .ok (.goto (-76), 3) := by decide +kernel
theorem dX7_isToldBy_90 : decode cX7_isToldBy 90 = .ok (.iload_n 3, 1) := by decide +kernel
theorem dX7_isToldBy_91 : decode cX7_isToldBy 91 = .ok (.ireturn, 1) := by decide +kernel
theorem dX7_layFits_0 : decode cX7_layFits 0 = .ok (.iconst 0, 1) := by decide +kernel
theorem dX7_layFits_1 : decode cX7_layFits 1 = .ok (.istore_n 1, 1) := by decide +kernel
theorem dX7_layFits_2 : decode cX7_layFits 2 = .ok (.iload_n 1, 1) := by decide +kernel
theorem dX7_layFits_3 : decode cX7_layFits 3 = .ok (.iconst 5, 1) := by decide +kernel
theorem dX7_layFits_4 : decode cX7_layFits 4 = .ok (.if_icmp .ge 16, 3) := by decide +kernel
theorem dX7_layFits_7 : decode cX7_layFits 7 = .ok (.aload_n 0, 1) := by decide +kernel
theorem dX7_layFits_8 : decode cX7_layFits 8 = .ok (.getfield 40, 3) := by decide +kernel
theorem dX7_layFits_11 : decode cX7_layFits 11 = .ok (.iload_n 1, 1) := by decide +kernel
theorem dX7_layFits_12 : decode cX7_layFits 12 = .ok (.iconst 0, 1) := by decide +kernel
theorem dX7_layFits_13 : decode cX7_layFits 13 = .ok (.iastore, 1) := by decide +kernel
theorem dX7_layFits_14 : decode cX7_layFits 14 = .ok (.iinc 1 1, 3) := by decide +kernel
theorem dX7_layFits_17 : decode cX7_layFits 17 = .ok (.goto (-15), 3) := by decide +kernel
theorem dX7_layFits_20 : decode cX7_layFits 20 = .ok (.iconst 0, 1) := by decide +kernel
theorem dX7_layFits_21 : decode cX7_layFits 21 = .ok (.istore_n 1, 1) := by decide +kernel
theorem dX7_layFits_22 : decode cX7_layFits 22 = .ok (.iconst 0, 1) := by decide +kernel
theorem dX7_layFits_23 : decode cX7_layFits 23 = .ok (.istore_n 2, 1) := by decide +kernel
theorem dX7_layFits_24 : decode cX7_layFits 24 = .ok (.iload_n 2, 1) := by decide +kernel
theorem dX7_layFits_25 : decode cX7_layFits 25 = .ok (.bipush 6, 2) := by decide +kernel
theorem dX7_layFits_27 : decode cX7_layFits 27 = .ok (.aload_n 0, 1) := by decide +kernel
theorem dX7_layFits_28 : decode cX7_layFits 28 = .ok (.getfield 87, 3) := by decide +kernel
theorem dX7_layFits_31 : decode cX7_layFits 31 = .ok (.invokestatic 150, 3) := by decide +kernel
theorem dX7_layFits_34 : decode cX7_layFits 34 = .ok (.if_icmp .ge 61, 3) := by decide +kernel
theorem dX7_layFits_37 : decode cX7_layFits 37 = .ok (.aload_n 0, 1) := by decide +kernel
theorem dX7_layFits_38 : decode cX7_layFits 38 = .ok (.iload_n 2, 1) := by decide +kernel
theorem dX7_layFits_39 : decode cX7_layFits 39 = .ok (.invokevirtual 194, 3) := by decide +kernel
theorem dX7_layFits_42 : decode cX7_layFits 42 = .ok (.ifCond .eq 47, 3) := by decide +kernel
theorem dX7_layFits_45 : decode cX7_layFits 45 = .ok (.iinc 1 1, 3) := by decide +kernel
theorem dX7_layFits_48 : decode cX7_layFits 48 = .ok (.iload_n 2, 1) := by decide +kernel
theorem dX7_layFits_49 : decode cX7_layFits 49 = .ok (.istore_n 3, 1) := by decide +kernel
theorem dX7_layFits_50 : decode cX7_layFits 50 = .ok (.iconst 0, 1) := by decide +kernel
theorem dX7_layFits_51 : decode cX7_layFits 51 = .ok (.istore 4, 2) := by decide +kernel
theorem dX7_layFits_53 : decode cX7_layFits 53 = .ok (.iload 4, 2) := by decide +kernel
theorem dX7_layFits_55 : decode cX7_layFits 55 = .ok (.aload_n 0, 1) := by decide +kernel
theorem dX7_layFits_56 : decode cX7_layFits 56 = .ok (.getfield 87, 3) := by decide +kernel
theorem dX7_layFits_59 : decode cX7_layFits 59 = .ok (.if_icmp .ge 30, 3) := by decide +kernel
theorem dX7_layFits_62 : decode cX7_layFits 62 = .ok (.aload_n 0, 1) := by decide +kernel
theorem dX7_layFits_63 : decode cX7_layFits 63 = .ok (.getfield 40, 3) := by decide +kernel
theorem dX7_layFits_66 : decode cX7_layFits 66 = .ok (.iload 4, 2) := by decide +kernel
theorem dX7_layFits_68 : decode cX7_layFits 68 = .ok (.dup2, 1) := by decide +kernel
theorem dX7_layFits_69 : decode cX7_layFits 69 = .ok (.iaload, 1) := by decide +kernel
theorem dX7_layFits_70 : decode cX7_layFits 70 = .ok (.iconst 1, 1) := by decide +kernel
theorem dX7_layFits_71 : decode cX7_layFits 71 = .ok (.iload_n 3, 1) := by decide +kernel
theorem dX7_layFits_72 : decode cX7_layFits 72 = .ok (.bipush 6, 2) := by decide +kernel
theorem dX7_layFits_74 : decode cX7_layFits 74 = .ok (.irem, 1) := by decide +kernel
theorem dX7_layFits_75 : decode cX7_layFits 75 = .ok (.ishl, 1) := by decide +kernel
theorem dX7_layFits_76 : decode cX7_layFits 76 = .ok (.ior, 1) := by decide +kernel
theorem dX7_layFits_77 : decode cX7_layFits 77 = .ok (.iastore, 1) := by decide +kernel
theorem dX7_layFits_78 : decode cX7_layFits 78 = .ok (.iload_n 3, 1) := by decide +kernel
theorem dX7_layFits_79 : decode cX7_layFits 79 = .ok (.bipush 6, 2) := by decide +kernel
theorem dX7_layFits_81 : decode cX7_layFits 81 = .ok (.idiv, 1) := by decide +kernel
theorem dX7_layFits_82 : decode cX7_layFits 82 = .ok (.istore_n 3, 1) := by decide +kernel
theorem dX7_layFits_83 : decode cX7_layFits 83 = .ok (.iinc 4 1, 3) := by decide +kernel
theorem dX7_layFits_86 : decode cX7_layFits 86 = .ok (.goto (-33), 3) := by decide +kernel
theorem dX7_layFits_89 : decode cX7_layFits 89 = .ok (.iinc 2 1, 3) := by decide +kernel
theorem dX7_layFits_92 : decode cX7_layFits 92 = .ok (.goto (-68), 3) := by decide +kernel
theorem dX7_layFits_95 : decode cX7_layFits 95 = .ok (.iload_n 1, 1) := by decide +kernel
theorem dX7_layFits_96 : decode cX7_layFits 96 = .ok (.ireturn, 1) := by decide +kernel
theorem dX7_fits_0 : decode cX7_fits 0 = .ok (.aload_n 0, 1) := by decide +kernel
theorem dX7_fits_1 : decode cX7_fits 1 = .ok (.invokevirtual 109, 3) := by decide +kernel
theorem dX7_fits_4 : decode cX7_fits 4 = .ok (.ifCond .eq 8, 3) := by decide +kernel
theorem dX7_fits_7 : decode cX7_fits 7 = .ok (.bipush (-103), 2) := by decide +kernel
theorem dX7_fits_9 : decode cX7_fits 9 = .ok (.goto 7, 3) := by decide +kernel
theorem dX7_fits_12 : decode cX7_fits 12 = .ok (.aload_n 0, 1) := by decide +kernel
theorem dX7_fits_13 : decode cX7_fits 13 = .ok (.invokevirtual 197, 3) := by decide +kernel
theorem dX7_fits_16 : decode cX7_fits 16 = .ok (.ireturn, 1) := by decide +kernel
theorem dX7_burnt_0 : decode cX7_burnt 0 = .ok (.iload_n 1, 1) := by decide +kernel
theorem dX7_burnt_1 : decode cX7_burnt 1 = .ok (.i2l, 1) := by decide +kernel
theorem dX7_burnt_2 : decode cX7_burnt 2 = .ok (.lconst 0, 1) := by decide +kernel
theorem dX7_burnt_3 : decode cX7_burnt 3 = .ok (.aload_n 0, 1) := by decide +kernel
theorem dX7_burnt_4 : decode cX7_burnt 4 = .ok (.getfield 87, 3) := by decide +kernel
theorem dX7_burnt_7 : decode cX7_burnt 7 = .ok (.iconst 1, 1) := by decide +kernel
theorem dX7_burnt_8 : decode cX7_burnt 8 = .ok (.isub, 1) := by decide +kernel
theorem dX7_burnt_9 : decode cX7_burnt 9 = .ok (.i2l, 1) := by decide +kernel
theorem dX7_burnt_10 : decode cX7_burnt 10 = .ok (.invokestatic 61, 3) := by decide +kernel
theorem dX7_burnt_13 : decode cX7_burnt 13 = .ok (.ifCond .ne 6, 3) := by decide +kernel
theorem dX7_burnt_16 : decode cX7_burnt 16 = .ok (.bipush (-101), 2) := by decide +kernel
theorem dX7_burnt_18 : decode cX7_burnt 18 = .ok (.ireturn, 1) := by decide +kernel
theorem dX7_burnt_19 : decode cX7_burnt 19 = .ok (.aload_n 0, 1) := by decide +kernel
theorem dX7_burnt_20 : decode cX7_burnt 20 = .ok (.invokevirtual 109, 3) := by decide +kernel
theorem dX7_burnt_23 : decode cX7_burnt 23 = .ok (.ifCond .eq 6, 3) := by decide +kernel
theorem dX7_burnt_26 : decode cX7_burnt 26 = .ok (.bipush (-103), 2) := by decide +kernel
theorem dX7_burnt_28 : decode cX7_burnt 28 = .ok (.ireturn, 1) := by decide +kernel
theorem dX7_burnt_29 : decode cX7_burnt 29 = .ok (.aload_n 0, 1) := by decide +kernel
theorem dX7_burnt_30 : decode cX7_burnt 30 = .ok (.invokevirtual 197, 3) := by decide +kernel
theorem dX7_burnt_33 : decode cX7_burnt 33 = .ok (.istore_n 2, 1) := by decide +kernel
theorem dX7_burnt_34 : decode cX7_burnt 34 = .ok (.iconst 0, 1) := by decide +kernel
theorem dX7_burnt_35 : decode cX7_burnt 35 = .ok (.istore_n 3, 1) := by decide +kernel
theorem dX7_burnt_36 : decode cX7_burnt 36 = .ok (.iload_n 3, 1) := by decide +kernel
theorem dX7_burnt_37 : decode cX7_burnt 37 = .ok (.bipush 6, 2) := by decide +kernel
theorem dX7_burnt_39 : decode cX7_burnt 39 = .ok (.if_icmp .ge 23, 3) := by decide +kernel
theorem dX7_burnt_42 : decode cX7_burnt 42 = .ok (.aload_n 0, 1) := by decide +kernel
theorem dX7_burnt_43 : decode cX7_burnt 43 = .ok (.getfield 40, 3) := by decide +kernel
theorem dX7_burnt_46 : decode cX7_burnt 46 = .ok (.iload_n 1, 1) := by decide +kernel
theorem dX7_burnt_47 : decode cX7_burnt 47 = .ok (.iaload, 1) := by decide +kernel
theorem dX7_burnt_48 : decode cX7_burnt 48 = .ok (.iconst 1, 1) := by decide +kernel
theorem dX7_burnt_49 : decode cX7_burnt 49 = .ok (.iload_n 3, 1) := by decide +kernel
theorem dX7_burnt_50 : decode cX7_burnt 50 = .ok (.ishl, 1) := by decide +kernel
theorem dX7_burnt_51 : decode cX7_burnt 51 = .ok (.if_icmp .ne 5, 3) := by decide +kernel
theorem dX7_burnt_54 : decode cX7_burnt 54 = .ok (.iload_n 3, 1) := by decide +kernel
theorem dX7_burnt_55 : decode cX7_burnt 55 = .ok (.ireturn, 1) := by decide +kernel
theorem dX7_burnt_56 : decode cX7_burnt 56 = .ok (.iinc 3 1, 3) := by decide +kernel
theorem dX7_burnt_59 : decode cX7_burnt 59 = .ok (.goto (-23), 3) := by decide +kernel
theorem dX7_burnt_62 : decode cX7_burnt 62 = .ok (.iconst (-1), 1) := by decide +kernel
theorem dX7_burnt_63 : decode cX7_burnt 63 = .ok (.ireturn, 1) := by decide +kernel
theorem dX7_draw_0 : decode cX7_draw 0 = .ok (.aload_n 0, 1) := by decide +kernel
theorem dX7_draw_1 : decode cX7_draw 1 = .ok (.ldc2_w 200, 3) := by decide +kernel
theorem dX7_draw_4 : decode cX7_draw 4 = .ok (.aload_n 0, 1) := by decide +kernel
theorem dX7_draw_5 : decode cX7_draw 5 = .ok (.getfield 202, 3) := by decide +kernel
theorem dX7_draw_8 : decode cX7_draw 8 = .ok (.i2l, 1) := by decide +kernel
theorem dX7_draw_9 : decode cX7_draw 9 = .ok (.lmul, 1) := by decide +kernel
theorem dX7_draw_10 : decode cX7_draw 10 = .ok (.ldc2_w 205, 3) := by decide +kernel
theorem dX7_draw_13 : decode cX7_draw 13 = .ok (.ladd, 1) := by decide +kernel
theorem dX7_draw_14 : decode cX7_draw 14 = .ok (.ldc2_w 207, 3) := by decide +kernel
theorem dX7_draw_17 : decode cX7_draw 17 = .ok (.land, 1) := by decide +kernel
theorem dX7_draw_18 : decode cX7_draw 18 = .ok (.l2i, 1) := by decide +kernel
theorem dX7_draw_19 : decode cX7_draw 19 = .ok (.putfield 202, 3) := by decide +kernel
theorem dX7_draw_22 : decode cX7_draw 22 = .ok (.aload_n 0, 1) := by decide +kernel
theorem dX7_draw_23 : decode cX7_draw 23 = .ok (.getfield 202, 3) := by decide +kernel
theorem dX7_draw_26 : decode cX7_draw 26 = .ok (.ldc 209, 2) := by decide +kernel
theorem dX7_draw_28 : decode cX7_draw 28 = .ok (.idiv, 1) := by decide +kernel
theorem dX7_draw_29 : decode cX7_draw 29 = .ok (.iload_n 1, 1) := by decide +kernel
theorem dX7_draw_30 : decode cX7_draw 30 = .ok (.irem, 1) := by decide +kernel
theorem dX7_draw_31 : decode cX7_draw 31 = .ok (.ireturn, 1) := by decide +kernel
theorem dX7_lotOf_0 : decode cX7_lotOf 0 = .ok (.iload_n 1, 1) := by decide +kernel
theorem dX7_lotOf_1 : decode cX7_lotOf 1 = .ok (.istore_n 2, 1) := by decide +kernel
theorem dX7_lotOf_2 : decode cX7_lotOf 2 = .ok (.iconst 0, 1) := by decide +kernel
theorem dX7_lotOf_3 : decode cX7_lotOf 3 = .ok (.istore_n 3, 1) := by decide +kernel
theorem dX7_lotOf_4 : decode cX7_lotOf 4 = .ok (.iload_n 3, 1) := by decide +kernel
theorem dX7_lotOf_5 : decode cX7_lotOf 5 = .ok (.bipush 6, 2) := by decide +kernel
theorem dX7_lotOf_7 : decode cX7_lotOf 7 = .ok (.if_icmp .ge 24, 3) := by decide +kernel
theorem dX7_lotOf_10 : decode cX7_lotOf 10 = .ok (.iload_n 2, 1) := by decide +kernel
theorem dX7_lotOf_11 : decode cX7_lotOf 11 = .ok (.aload_n 0, 1) := by decide +kernel
theorem dX7_lotOf_12 : decode cX7_lotOf 12 = .ok (.getfield 13, 3) := by decide +kernel
theorem dX7_lotOf_15 : decode cX7_lotOf 15 = .ok (.iload_n 3, 1) := by decide +kernel
theorem dX7_lotOf_16 : decode cX7_lotOf 16 = .ok (.iaload, 1) := by decide +kernel
theorem dX7_lotOf_17 : decode cX7_lotOf 17 = .ok (.isub, 1) := by decide +kernel
theorem dX7_lotOf_18 : decode cX7_lotOf 18 = .ok (.istore_n 2, 1) := by decide +kernel
theorem dX7_lotOf_19 : decode cX7_lotOf 19 = .ok (.iload_n 2, 1) := by decide +kernel
theorem dX7_lotOf_20 : decode cX7_lotOf 20 = .ok (.ifCond .ge 5, 3) := by decide +kernel
theorem dX7_lotOf_23 : decode cX7_lotOf 23 = .ok (.iload_n 3, 1) := by decide +kernel
theorem dX7_lotOf_24 : decode cX7_lotOf 24 = .ok (.ireturn, 1) := by decide +kernel
theorem dX7_lotOf_25 : decode cX7_lotOf 25 = .ok (.iinc 3 1, 3) := by decide +kernel
theorem dX7_lotOf_28 : decode cX7_lotOf 28 = .ok (.goto (-24), 3) := by decide +kernel
theorem dX7_lotOf_31 : decode cX7_lotOf 31 = .ok (.iconst 5, 1) := by decide +kernel
theorem dX7_lotOf_32 : decode cX7_lotOf 32 = .ok (.ireturn, 1) := by decide +kernel
theorem dX7_years_0 : decode cX7_years 0 = .ok (.iload_n 1, 1) := by decide +kernel
theorem dX7_years_1 : decode cX7_years 1 = .ok (.i2l, 1) := by decide +kernel
theorem dX7_years_2 : decode cX7_years 2 = .ok (.lconst 1, 1) := by decide +kernel
theorem dX7_years_3 : decode cX7_years 3 = .ok (.ldc2_w 210, 3) := by decide +kernel
theorem dX7_years_6 : decode cX7_years 6 = .ok (.invokestatic 61, 3) := by decide +kernel
theorem dX7_years_9 : decode cX7_years 9 = .ok (.ifCond .eq 19, 3) := by decide +kernel
theorem dX7_years_12 : decode cX7_years 12 = .ok (.iload_n 2, 1) := by decide +kernel
theorem dX7_years_13 : decode cX7_years 13 = .ok (.ifCond .lt 15, 3) := by decide +kernel
theorem dX7_years_16 : decode cX7_years 16 = .ok (.iload_n 3, 1) := by decide +kernel
theorem dX7_years_17 : decode cX7_years 17 = .ok (.i2l, 1) := by decide +kernel
theorem dX7_years_18 : decode cX7_years 18 = .ok (.lconst 0, 1) := by decide +kernel
theorem dX7_years_19 : decode cX7_years 19 = .ok (.ldc2_w 212, 3) := by decide +kernel
theorem dX7_years_22 : decode cX7_years 22 = .ok (.invokestatic 61, 3) := by decide +kernel
theorem dX7_years_25 : decode cX7_years 25 = .ok (.ifCond .ne 6, 3) := by decide +kernel
theorem dX7_years_28 : decode cX7_years 28 = .ok (.bipush (-102), 2) := by decide +kernel
theorem dX7_years_30 : decode cX7_years 30 = .ok (.ireturn, 1) := by decide +kernel
theorem dX7_years_31 : decode cX7_years 31 = .ok (.aload_n 0, 1) := by decide +kernel
theorem dX7_years_32 : decode cX7_years 32 = .ok (.invokevirtual 109, 3) := by decide +kernel
theorem dX7_years_35 : decode cX7_years 35 = .ok (.ifCond .eq 6, 3) := by decide +kernel
theorem dX7_years_38 : decode cX7_years 38 = .ok (.bipush (-103), 2) := by decide +kernel
theorem dX7_years_40 : decode cX7_years 40 = .ok (.ireturn, 1) := by decide +kernel
theorem dX7_years_41 : decode cX7_years 41 = .ok (.aload_n 0, 1) := by decide +kernel
theorem dX7_years_42 : decode cX7_years 42 = .ok (.invokevirtual 144, 3) := by decide +kernel
theorem dX7_years_45 : decode cX7_years 45 = .ok (.aload_n 0, 1) := by decide +kernel
theorem dX7_years_46 : decode cX7_years 46 = .ok (.iload_n 2, 1) := by decide +kernel
theorem dX7_years_47 : decode cX7_years 47 = .ok (.putfield 202, 3) := by decide +kernel
theorem dX7_years_50 : decode cX7_years 50 = .ok (.iconst 0, 1) := by decide +kernel
theorem dX7_years_51 : decode cX7_years 51 = .ok (.istore 4, 2) := by decide +kernel
theorem dX7_years_53 : decode cX7_years 53 = .ok (.iload 4, 2) := by decide +kernel
theorem dX7_years_55 : decode cX7_years 55 = .ok (.iload_n 1, 1) := by decide +kernel
theorem dX7_years_56 : decode cX7_years 56 = .ok (.if_icmp .ge 25, 3) := by decide +kernel
theorem dX7_years_59 : decode cX7_years 59 = .ok (.aload_n 0, 1) := by decide +kernel
theorem dX7_years_60 : decode cX7_years 60 = .ok (.aload_n 0, 1) := by decide +kernel
theorem dX7_years_61 : decode cX7_years 61 = .ok (.aload_n 0, 1) := by decide +kernel
theorem dX7_years_62 : decode cX7_years 62 = .ok (.bipush 10, 2) := by decide +kernel
theorem dX7_years_64 : decode cX7_years 64 = .ok (.invokevirtual 214, 3) := by decide +kernel
theorem dX7_years_67 : decode cX7_years 67 = .ok (.invokevirtual 217, 3) := by decide +kernel
theorem dX7_years_70 : decode cX7_years 70 = .ok (.invokevirtual 147, 3) := by decide +kernel
theorem dX7_years_73 : decode cX7_years 73 = .ok (.istore 5, 2) := by decide +kernel
theorem dX7_years_75 : decode cX7_years 75 = .ok (.iinc 4 1, 3) := by decide +kernel
theorem dX7_years_78 : decode cX7_years 78 = .ok (.goto (-25), 3) := by decide +kernel
theorem dX7_years_81 : decode cX7_years 81 = .ok (.iconst 0, 1) := by decide +kernel
theorem dX7_years_82 : decode cX7_years 82 = .ok (.istore 4, 2) := by decide +kernel
theorem dX7_years_84 : decode cX7_years 84 = .ok (.iconst 0, 1) := by decide +kernel
theorem dX7_years_85 : decode cX7_years 85 = .ok (.istore 5, 2) := by decide +kernel
theorem dX7_years_87 : decode cX7_years 87 = .ok (.iload 5, 2) := by decide +kernel
theorem dX7_years_89 : decode cX7_years 89 = .ok (.aload_n 0, 1) := by decide +kernel
theorem dX7_years_90 : decode cX7_years 90 = .ok (.getfield 81, 3) := by decide +kernel
theorem dX7_years_93 : decode cX7_years 93 = .ok (.if_icmp .ge 24, 3) := by decide +kernel
theorem dX7_years_96 : decode cX7_years 96 = .ok (.iload 4, 2) := by decide +kernel
theorem dX7_years_98 : decode cX7_years 98 = .ok (.aload_n 0, 1) := by decide +kernel
theorem dX7_years_99 : decode cX7_years 99 = .ok (.getfield 25, 3) := by decide +kernel
theorem dX7_years_102 : decode cX7_years 102 = .ok (.iload 5, 2) := by decide +kernel
theorem dX7_years_104 : decode cX7_years 104 = .ok (.iaload, 1) := by decide +kernel
theorem dX7_years_105 : decode cX7_years 105 = .ok (.invokestatic 123, 3) := by decide +kernel
theorem dX7_years_108 : decode cX7_years 108 = .ok (.iadd, 1) := by decide +kernel
theorem dX7_years_109 : decode cX7_years 109 = .ok (.istore 4, 2) := by decide +kernel
theorem dX7_years_111 : decode cX7_years 111 = .ok (.iinc 5 1, 3) := by decide +kernel
theorem dX7_years_114 : decode cX7_years 114 = .ok (.goto (-27), 3) := by decide +kernel
theorem dX7_years_117 : decode cX7_years 117 = .ok (.iload_n 3, 1) := by decide +kernel
theorem dX7_years_118 : decode cX7_years 118 = .ok (.ifCond .ne 10, 3) := by decide +kernel
theorem dX7_years_121 : decode cX7_years 121 = .ok (.aload_n 0, 1) := by decide +kernel
theorem dX7_years_122 : decode cX7_years 122 = .ok (.invokevirtual 191, 3) := by decide +kernel
theorem dX7_years_125 : decode cX7_years 125 = .ok (.goto 17, 3) := by decide +kernel
theorem dX7_years_128 : decode cX7_years 128 = .ok (.iload_n 3, 1) := by decide +kernel
theorem dX7_years_129 : decode cX7_years 129 = .ok (.iconst 1, 1) := by decide +kernel
theorem dX7_years_130 : decode cX7_years 130 = .ok (.if_icmp .ne 8, 3) := by decide +kernel
theorem dX7_years_133 : decode cX7_years 133 = .ok (.iload 4, 2) := by decide +kernel
theorem dX7_years_135 : decode cX7_years 135 = .ok (.goto 7, 3) := by decide +kernel
theorem dX7_years_138 : decode cX7_years 138 = .ok (.aload_n 0, 1) := by decide +kernel
theorem dX7_years_139 : decode cX7_years 139 = .ok (.getfield 202, 3) := by decide +kernel
theorem dX7_years_142 : decode cX7_years 142 = .ok (.ireturn, 1) := by decide +kernel
theorem dX7_copyTo_0 : decode cX7_copyTo 0 = .ok (.iconst 0, 1) := by decide +kernel
theorem dX7_copyTo_1 : decode cX7_copyTo 1 = .ok (.istore_n 2, 1) := by decide +kernel
theorem dX7_copyTo_2 : decode cX7_copyTo 2 = .ok (.iload_n 2, 1) := by decide +kernel
theorem dX7_copyTo_3 : decode cX7_copyTo 3 = .ok (.aload_n 0, 1) := by decide +kernel
theorem dX7_copyTo_4 : decode cX7_copyTo 4 = .ok (.arraylength, 1) := by decide +kernel
theorem dX7_copyTo_5 : decode cX7_copyTo 5 = .ok (.if_icmp .ge 15, 3) := by decide +kernel
theorem dX7_copyTo_8 : decode cX7_copyTo 8 = .ok (.aload_n 1, 1) := by decide +kernel
theorem dX7_copyTo_9 : decode cX7_copyTo 9 = .ok (.iload_n 2, 1) := by decide +kernel
theorem dX7_copyTo_10 : decode cX7_copyTo 10 = .ok (.aload_n 0, 1) := by decide +kernel
theorem dX7_copyTo_11 : decode cX7_copyTo 11 = .ok (.iload_n 2, 1) := by decide +kernel
theorem dX7_copyTo_12 : decode cX7_copyTo 12 = .ok (.iaload, 1) := by decide +kernel
theorem dX7_copyTo_13 : decode cX7_copyTo 13 = .ok (.iastore, 1) := by decide +kernel
theorem dX7_copyTo_14 : decode cX7_copyTo 14 = .ok (.iinc 2 1, 3) := by decide +kernel
theorem dX7_copyTo_17 : decode cX7_copyTo 17 = .ok (.goto (-15), 3) := by decide +kernel
theorem dX7_copyTo_20 : decode cX7_copyTo 20 = .ok (.return_, 1) := by decide +kernel
theorem dX7_image_0 : decode cX7_image 0 = .ok (.aload_n 0, 1) := by decide +kernel
theorem dX7_image_1 : decode cX7_image 1 = .ok (.invokevirtual 109, 3) := by decide +kernel
theorem dX7_image_4 : decode cX7_image 4 = .ok (.ifCond .eq 6, 3) := by decide +kernel
theorem dX7_image_7 : decode cX7_image 7 = .ok (.bipush (-103), 2) := by decide +kernel
theorem dX7_image_9 : decode cX7_image 9 = .ok (.ireturn, 1) := by decide +kernel
theorem dX7_image_10 : decode cX7_image 10 = .ok (.aload_n 0, 1) := by decide +kernel
theorem dX7_image_11 : decode cX7_image 11 = .ok (.getfield 16, 3) := by decide +kernel
theorem dX7_image_14 : decode cX7_image 14 = .ok (.aload_n 0, 1) := by decide +kernel
theorem dX7_image_15 : decode cX7_image 15 = .ok (.getfield 43, 3) := by decide +kernel
theorem dX7_image_18 : decode cX7_image 18 = .ok (.invokestatic 220, 3) := by decide +kernel
theorem dX7_image_21 : decode cX7_image 21 = .ok (.aload_n 0, 1) := by decide +kernel
theorem dX7_image_22 : decode cX7_image 22 = .ok (.getfield 19, 3) := by decide +kernel
theorem dX7_image_25 : decode cX7_image 25 = .ok (.aload_n 0, 1) := by decide +kernel
theorem dX7_image_26 : decode cX7_image 26 = .ok (.getfield 46, 3) := by decide +kernel
theorem dX7_image_29 : decode cX7_image 29 = .ok (.invokestatic 220, 3) := by decide +kernel
theorem dX7_image_32 : decode cX7_image 32 = .ok (.aload_n 0, 1) := by decide +kernel
theorem dX7_image_33 : decode cX7_image 33 = .ok (.getfield 22, 3) := by decide +kernel
theorem dX7_image_36 : decode cX7_image 36 = .ok (.aload_n 0, 1) := by decide +kernel
theorem dX7_image_37 : decode cX7_image 37 = .ok (.getfield 49, 3) := by decide +kernel
theorem dX7_image_40 : decode cX7_image 40 = .ok (.invokestatic 220, 3) := by decide +kernel
theorem dX7_image_43 : decode cX7_image 43 = .ok (.aload_n 0, 1) := by decide +kernel
theorem dX7_image_44 : decode cX7_image 44 = .ok (.getfield 37, 3) := by decide +kernel
theorem dX7_image_47 : decode cX7_image 47 = .ok (.aload_n 0, 1) := by decide +kernel
theorem dX7_image_48 : decode cX7_image 48 = .ok (.getfield 52, 3) := by decide +kernel
theorem dX7_image_51 : decode cX7_image 51 = .ok (.invokestatic 220, 3) := by decide +kernel
theorem dX7_image_54 : decode cX7_image 54 = .ok (.aload_n 0, 1) := by decide +kernel
theorem dX7_image_55 : decode cX7_image 55 = .ok (.aload_n 0, 1) := by decide +kernel
theorem dX7_image_56 : decode cX7_image 56 = .ok (.getfield 81, 3) := by decide +kernel
theorem dX7_image_59 : decode cX7_image 59 = .ok (.putfield 224, 3) := by decide +kernel
theorem dX7_image_62 : decode cX7_image 62 = .ok (.aload_n 0, 1) := by decide +kernel
theorem dX7_image_63 : decode cX7_image 63 = .ok (.aload_n 0, 1) := by decide +kernel
theorem dX7_image_64 : decode cX7_image 64 = .ok (.getfield 84, 3) := by decide +kernel
theorem dX7_image_67 : decode cX7_image 67 = .ok (.putfield 227, 3) := by decide +kernel
theorem dX7_image_70 : decode cX7_image 70 = .ok (.aload_n 0, 1) := by decide +kernel
theorem dX7_image_71 : decode cX7_image 71 = .ok (.aload_n 0, 1) := by decide +kernel
theorem dX7_image_72 : decode cX7_image 72 = .ok (.getfield 87, 3) := by decide +kernel
theorem dX7_image_75 : decode cX7_image 75 = .ok (.putfield 230, 3) := by decide +kernel
theorem dX7_image_78 : decode cX7_image 78 = .ok (.aload_n 0, 1) := by decide +kernel
theorem dX7_image_79 : decode cX7_image 79 = .ok (.aload_n 0, 1) := by decide +kernel
theorem dX7_image_80 : decode cX7_image 80 = .ok (.getfield 90, 3) := by decide +kernel
theorem dX7_image_83 : decode cX7_image 83 = .ok (.putfield 55, 3) := by decide +kernel
theorem dX7_image_86 : decode cX7_image 86 = .ok (.aload_n 0, 1) := by decide +kernel
theorem dX7_image_87 : decode cX7_image 87 = .ok (.getfield 84, 3) := by decide +kernel
theorem dX7_image_90 : decode cX7_image 90 = .ok (.ireturn, 1) := by decide +kernel
theorem dX7_restore_0 : decode cX7_restore 0 = .ok (.aload_n 0, 1) := by decide +kernel
theorem dX7_restore_1 : decode cX7_restore 1 = .ok (.getfield 55, 3) := by decide +kernel
theorem dX7_restore_4 : decode cX7_restore 4 = .ok (.aload_n 0, 1) := by decide +kernel
theorem dX7_restore_5 : decode cX7_restore 5 = .ok (.getfield 90, 3) := by decide +kernel
theorem dX7_restore_8 : decode cX7_restore 8 = .ok (.if_icmp .eq 6, 3) := by decide +kernel
theorem dX7_restore_11 : decode cX7_restore 11 = .ok (.bipush (-103), 2) := by decide +kernel
theorem dX7_restore_13 : decode cX7_restore 13 = .ok (.ireturn, 1) := by decide +kernel
theorem dX7_restore_14 : decode cX7_restore 14 = .ok (.aload_n 0, 1) := by decide +kernel
theorem dX7_restore_15 : decode cX7_restore 15 = .ok (.getfield 43, 3) := by decide +kernel
theorem dX7_restore_18 : decode cX7_restore 18 = .ok (.aload_n 0, 1) := by decide +kernel
theorem dX7_restore_19 : decode cX7_restore 19 = .ok (.getfield 16, 3) := by decide +kernel
theorem dX7_restore_22 : decode cX7_restore 22 = .ok (.invokestatic 220, 3) := by decide +kernel
theorem dX7_restore_25 : decode cX7_restore 25 = .ok (.aload_n 0, 1) := by decide +kernel
theorem dX7_restore_26 : decode cX7_restore 26 = .ok (.getfield 46, 3) := by decide +kernel
theorem dX7_restore_29 : decode cX7_restore 29 = .ok (.aload_n 0, 1) := by decide +kernel
theorem dX7_restore_30 : decode cX7_restore 30 = .ok (.getfield 19, 3) := by decide +kernel
theorem dX7_restore_33 : decode cX7_restore 33 = .ok (.invokestatic 220, 3) := by decide +kernel
theorem dX7_restore_36 : decode cX7_restore 36 = .ok (.aload_n 0, 1) := by decide +kernel
theorem dX7_restore_37 : decode cX7_restore 37 = .ok (.getfield 49, 3) := by decide +kernel
theorem dX7_restore_40 : decode cX7_restore 40 = .ok (.aload_n 0, 1) := by decide +kernel
theorem dX7_restore_41 : decode cX7_restore 41 = .ok (.getfield 22, 3) := by decide +kernel
theorem dX7_restore_44 : decode cX7_restore 44 = .ok (.invokestatic 220, 3) := by decide +kernel
theorem dX7_restore_47 : decode cX7_restore 47 = .ok (.aload_n 0, 1) := by decide +kernel
theorem dX7_restore_48 : decode cX7_restore 48 = .ok (.getfield 52, 3) := by decide +kernel
theorem dX7_restore_51 : decode cX7_restore 51 = .ok (.aload_n 0, 1) := by decide +kernel
theorem dX7_restore_52 : decode cX7_restore 52 = .ok (.getfield 37, 3) := by decide +kernel
theorem dX7_restore_55 : decode cX7_restore 55 = .ok (.invokestatic 220, 3) := by decide +kernel
theorem dX7_restore_58 : decode cX7_restore 58 = .ok (.aload_n 0, 1) := by decide +kernel
theorem dX7_restore_59 : decode cX7_restore 59 = .ok (.aload_n 0, 1) := by decide +kernel
theorem dX7_restore_60 : decode cX7_restore 60 = .ok (.getfield 224, 3) := by decide +kernel
theorem dX7_restore_63 : decode cX7_restore 63 = .ok (.putfield 81, 3) := by decide +kernel
theorem dX7_restore_66 : decode cX7_restore 66 = .ok (.aload_n 0, 1) := by decide +kernel
theorem dX7_restore_67 : decode cX7_restore 67 = .ok (.aload_n 0, 1) := by decide +kernel
theorem dX7_restore_68 : decode cX7_restore 68 = .ok (.getfield 227, 3) := by decide +kernel
theorem dX7_restore_71 : decode cX7_restore 71 = .ok (.putfield 84, 3) := by decide +kernel
theorem dX7_restore_74 : decode cX7_restore 74 = .ok (.aload_n 0, 1) := by decide +kernel
theorem dX7_restore_75 : decode cX7_restore 75 = .ok (.aload_n 0, 1) := by decide +kernel
theorem dX7_restore_76 : decode cX7_restore 76 = .ok (.getfield 230, 3) := by decide +kernel
theorem dX7_restore_79 : decode cX7_restore 79 = .ok (.putfield 87, 3) := by decide +kernel
theorem dX7_restore_82 : decode cX7_restore 82 = .ok (.aload_n 0, 1) := by decide +kernel
theorem dX7_restore_83 : decode cX7_restore 83 = .ok (.getfield 84, 3) := by decide +kernel
theorem dX7_restore_86 : decode cX7_restore 86 = .ok (.ireturn, 1) := by decide +kernel
theorem dX7_countOf_0 : decode cX7_countOf 0 = .ok (.iconst 0, 1) := by decide +kernel
theorem dX7_countOf_1 : decode cX7_countOf 1 = .ok (.istore_n 2, 1) := by decide +kernel
theorem dX7_countOf_2 : decode cX7_countOf 2 = .ok (.iconst 0, 1) := by decide +kernel
theorem dX7_countOf_3 : decode cX7_countOf 3 = .ok (.istore_n 3, 1) := by decide +kernel
theorem dX7_countOf_4 : decode cX7_countOf 4 = .ok (.iconst 0, 1) := by decide +kernel
theorem dX7_countOf_5 : decode cX7_countOf 5 = .ok (.istore 4, 2) := by decide +kernel
theorem dX7_countOf_7 : decode cX7_countOf 7 = .ok (.iload 4, 2) := by decide +kernel
theorem dX7_countOf_9 : decode cX7_countOf 9 = .ok (.aload_n 0, 1) := by decide +kernel
theorem dX7_countOf_10 : decode cX7_countOf 10 = .ok (.getfield 81, 3) := by decide +kernel
theorem dX7_countOf_13 : decode cX7_countOf 13 = .ok (.if_icmp .ge 40, 3) := by decide +kernel
theorem dX7_countOf_16 : decode cX7_countOf 16 = .ok (.iload_n 2, 1) := by decide +kernel
theorem dX7_countOf_17 : decode cX7_countOf 17 = .ok (.aload_n 0, 1) := by decide +kernel
theorem dX7_countOf_18 : decode cX7_countOf 18 = .ok (.getfield 19, 3) := by decide +kernel
theorem dX7_countOf_21 : decode cX7_countOf 21 = .ok (.iload 4, 2) := by decide +kernel
theorem dX7_countOf_23 : decode cX7_countOf 23 = .ok (.iaload, 1) := by decide +kernel
theorem dX7_countOf_24 : decode cX7_countOf 24 = .ok (.ifCond .ne 7, 3) := by decide +kernel
theorem dX7_countOf_27 : decode cX7_countOf 27 = .ok (.iconst 0, 1) := by decide +kernel
theorem dX7_countOf_28 : decode cX7_countOf 28 = .ok (.goto 4, 3) := by decide +kernel
theorem dX7_countOf_31 : decode cX7_countOf 31 = .ok (.iconst 1, 1) := by decide +kernel
theorem dX7_countOf_32 : decode cX7_countOf 32 = .ok (.iadd, 1) := by decide +kernel
theorem dX7_countOf_33 : decode cX7_countOf 33 = .ok (.istore_n 2, 1) := by decide +kernel
theorem dX7_countOf_34 : decode cX7_countOf 34 = .ok (.iload_n 3, 1) := by decide +kernel
theorem dX7_countOf_35 : decode cX7_countOf 35 = .ok (.aload_n 0, 1) := by decide +kernel
theorem dX7_countOf_36 : decode cX7_countOf 36 = .ok (.getfield 19, 3) := by decide +kernel
theorem dX7_countOf_39 : decode cX7_countOf 39 = .ok (.iload 4, 2) := by decide +kernel
theorem dX7_countOf_41 : decode cX7_countOf 41 = .ok (.iaload, 1) := by decide +kernel
theorem dX7_countOf_42 : decode cX7_countOf 42 = .ok (.invokestatic 123, 3) := by decide +kernel
theorem dX7_countOf_45 : decode cX7_countOf 45 = .ok (.iadd, 1) := by decide +kernel
theorem dX7_countOf_46 : decode cX7_countOf 46 = .ok (.istore_n 3, 1) := by decide +kernel
theorem dX7_countOf_47 : decode cX7_countOf 47 = .ok (.iinc 4 1, 3) := by decide +kernel
theorem dX7_countOf_50 : decode cX7_countOf 50 = .ok (.goto (-43), 3) := by decide +kernel
theorem dX7_countOf_53 : decode cX7_countOf 53 = .ok (.iload_n 1, 1) := by decide +kernel
theorem dX7_countOf_54 : decode cX7_countOf 54 = .ok (.tableswitch 98 0 9 #[54, 59, 64, 66, 68, 73, 78, 83, 88, 93], 54) := by decide +kernel
theorem dX7_countOf_108 : decode cX7_countOf 108 = .ok (.aload_n 0, 1) := by decide +kernel
theorem dX7_countOf_109 : decode cX7_countOf 109 = .ok (.getfield 78, 3) := by decide +kernel
theorem dX7_countOf_112 : decode cX7_countOf 112 = .ok (.ireturn, 1) := by decide +kernel
theorem dX7_countOf_113 : decode cX7_countOf 113 = .ok (.aload_n 0, 1) := by decide +kernel
theorem dX7_countOf_114 : decode cX7_countOf 114 = .ok (.getfield 81, 3) := by decide +kernel
theorem dX7_countOf_117 : decode cX7_countOf 117 = .ok (.ireturn, 1) := by decide +kernel
theorem dX7_countOf_118 : decode cX7_countOf 118 = .ok (.iload_n 2, 1) := by decide +kernel
theorem dX7_countOf_119 : decode cX7_countOf 119 = .ok (.ireturn, 1) := by decide +kernel
theorem dX7_countOf_120 : decode cX7_countOf 120 = .ok (.iload_n 3, 1) := by decide +kernel
theorem dX7_countOf_121 : decode cX7_countOf 121 = .ok (.ireturn, 1) := by decide +kernel
theorem dX7_countOf_122 : decode cX7_countOf 122 = .ok (.aload_n 0, 1) := by decide +kernel
theorem dX7_countOf_123 : decode cX7_countOf 123 = .ok (.getfield 84, 3) := by decide +kernel
theorem dX7_countOf_126 : decode cX7_countOf 126 = .ok (.ireturn, 1) := by decide +kernel
theorem dX7_countOf_127 : decode cX7_countOf 127 = .ok (.aload_n 0, 1) := by decide +kernel
theorem dX7_countOf_128 : decode cX7_countOf 128 = .ok (.getfield 87, 3) := by decide +kernel
theorem dX7_countOf_131 : decode cX7_countOf 131 = .ok (.ireturn, 1) := by decide +kernel
theorem dX7_countOf_132 : decode cX7_countOf 132 = .ok (.aload_n 0, 1) := by decide +kernel
theorem dX7_countOf_133 : decode cX7_countOf 133 = .ok (.getfield 65, 3) := by decide +kernel
theorem dX7_countOf_136 : decode cX7_countOf 136 = .ok (.ireturn, 1) := by decide +kernel
theorem dX7_countOf_137 : decode cX7_countOf 137 = .ok (.aload_n 0, 1) := by decide +kernel
theorem dX7_countOf_138 : decode cX7_countOf 138 = .ok (.getfield 90, 3) := by decide +kernel
theorem dX7_countOf_141 : decode cX7_countOf 141 = .ok (.ireturn, 1) := by decide +kernel
theorem dX7_countOf_142 : decode cX7_countOf 142 = .ok (.aload_n 0, 1) := by decide +kernel
theorem dX7_countOf_143 : decode cX7_countOf 143 = .ok (.getfield 166, 3) := by decide +kernel
theorem dX7_countOf_146 : decode cX7_countOf 146 = .ok (.ireturn, 1) := by decide +kernel
theorem dX7_countOf_147 : decode cX7_countOf 147 = .ok (.aload_n 0, 1) := by decide +kernel
theorem dX7_countOf_148 : decode cX7_countOf 148 = .ok (.getfield 183, 3) := by decide +kernel
theorem dX7_countOf_151 : decode cX7_countOf 151 = .ok (.ireturn, 1) := by decide +kernel
theorem dX7_countOf_152 : decode cX7_countOf 152 = .ok (.bipush (-102), 2) := by decide +kernel
theorem dX7_countOf_154 : decode cX7_countOf 154 = .ok (.ireturn, 1) := by decide +kernel
theorem dX7_count_0 : decode cX7_count 0 = .ok (.aload_n 0, 1) := by decide +kernel
theorem dX7_count_1 : decode cX7_count 1 = .ok (.iload_n 1, 1) := by decide +kernel
theorem dX7_count_2 : decode cX7_count 2 = .ok (.invokevirtual 233, 3) := by decide +kernel
theorem dX7_count_5 : decode cX7_count 5 = .ok (.ireturn, 1) := by decide +kernel
theorem dX7_say_0 : decode cX7_say 0 = .ok (.aload_n 0, 1) := by decide +kernel
theorem dX7_say_1 : decode cX7_say 1 = .ok (.ldc2_w 236, 3) := by decide +kernel
theorem dX7_say_4 : decode cX7_say 4 = .ok (.aload_n 0, 1) := by decide +kernel
theorem dX7_say_5 : decode cX7_say 5 = .ok (.getfield 238, 3) := by decide +kernel
theorem dX7_say_8 : decode cX7_say 8 = .ok (.lmul, 1) := by decide +kernel
theorem dX7_say_9 : decode cX7_say 9 = .ok (.lload_n 1, 1) := by decide +kernel
theorem dX7_say_10 : decode cX7_say 10 = .ok (.ladd, 1) := by decide +kernel
theorem dX7_say_11 : decode cX7_say 11 = .ok (.putfield 238, 3) := by decide +kernel
theorem dX7_say_14 : decode cX7_say 14 = .ok (.return_, 1) := by decide +kernel
theorem dX7_sayFile_0 : decode cX7_sayFile 0 = .ok (.iconst 0, 1) := by decide +kernel
theorem dX7_sayFile_1 : decode cX7_sayFile 1 = .ok (.istore_n 2, 1) := by decide +kernel
theorem dX7_sayFile_2 : decode cX7_sayFile 2 = .ok (.iload_n 2, 1) := by decide +kernel
theorem dX7_sayFile_3 : decode cX7_sayFile 3 = .ok (.bipush 6, 2) := by decide +kernel
theorem dX7_sayFile_5 : decode cX7_sayFile 5 = .ok (.if_icmp .ge 20, 3) := by decide +kernel
theorem dX7_sayFile_8 : decode cX7_sayFile 8 = .ok (.aload_n 0, 1) := by decide +kernel
theorem dX7_sayFile_9 : decode cX7_sayFile 9 = .ok (.aload_n 0, 1) := by decide +kernel
theorem dX7_sayFile_10 : decode cX7_sayFile 10 = .ok (.iload_n 1, 1) := by decide +kernel
theorem dX7_sayFile_11 : decode cX7_sayFile 11 = .ok (.iload_n 2, 1) := by decide +kernel
theorem dX7_sayFile_12 : decode cX7_sayFile 12 = .ok (.invokevirtual 120, 3) := by decide +kernel
theorem dX7_sayFile_15 : decode cX7_sayFile 15 = .ok (.i2l, 1) := by decide +kernel
theorem dX7_sayFile_16 : decode cX7_sayFile 16 = .ok (.invokevirtual 242, 3) := by decide +kernel
theorem dX7_sayFile_19 : decode cX7_sayFile 19 = .ok (.iinc 2 1, 3) := by decide +kernel
theorem dX7_sayFile_22 : decode cX7_sayFile 22 = .ok (.goto (-20), 3) := by decide +kernel
theorem dX7_sayFile_25 : decode cX7_sayFile 25 = .ok (.aload_n 0, 1) := by decide +kernel
theorem dX7_sayFile_26 : decode cX7_sayFile 26 = .ok (.aload_n 0, 1) := by decide +kernel
theorem dX7_sayFile_27 : decode cX7_sayFile 27 = .ok (.iload_n 1, 1) := by decide +kernel
theorem dX7_sayFile_28 : decode cX7_sayFile 28 = .ok (.iconst 2, 1) := by decide +kernel
theorem dX7_sayFile_29 : decode cX7_sayFile 29 = .ok (.iconst 0, 1) := by decide +kernel
theorem dX7_sayFile_30 : decode cX7_sayFile 30 = .ok (.invokevirtual 160, 3) := by decide +kernel
theorem dX7_sayFile_33 : decode cX7_sayFile 33 = .ok (.i2l, 1) := by decide +kernel
theorem dX7_sayFile_34 : decode cX7_sayFile 34 = .ok (.invokevirtual 242, 3) := by decide +kernel
theorem dX7_sayFile_37 : decode cX7_sayFile 37 = .ok (.aload_n 0, 1) := by decide +kernel
theorem dX7_sayFile_38 : decode cX7_sayFile 38 = .ok (.aload_n 0, 1) := by decide +kernel
theorem dX7_sayFile_39 : decode cX7_sayFile 39 = .ok (.iload_n 1, 1) := by decide +kernel
theorem dX7_sayFile_40 : decode cX7_sayFile 40 = .ok (.iconst 2, 1) := by decide +kernel
theorem dX7_sayFile_41 : decode cX7_sayFile 41 = .ok (.iconst 1, 1) := by decide +kernel
theorem dX7_sayFile_42 : decode cX7_sayFile 42 = .ok (.invokevirtual 160, 3) := by decide +kernel
theorem dX7_sayFile_45 : decode cX7_sayFile 45 = .ok (.i2l, 1) := by decide +kernel
theorem dX7_sayFile_46 : decode cX7_sayFile 46 = .ok (.invokevirtual 242, 3) := by decide +kernel
theorem dX7_sayFile_49 : decode cX7_sayFile 49 = .ok (.aload_n 0, 1) := by decide +kernel
theorem dX7_sayFile_50 : decode cX7_sayFile 50 = .ok (.aload_n 0, 1) := by decide +kernel
theorem dX7_sayFile_51 : decode cX7_sayFile 51 = .ok (.iload_n 1, 1) := by decide +kernel
theorem dX7_sayFile_52 : decode cX7_sayFile 52 = .ok (.iconst 2, 1) := by decide +kernel
theorem dX7_sayFile_53 : decode cX7_sayFile 53 = .ok (.invokevirtual 163, 3) := by decide +kernel
theorem dX7_sayFile_56 : decode cX7_sayFile 56 = .ok (.i2l, 1) := by decide +kernel
theorem dX7_sayFile_57 : decode cX7_sayFile 57 = .ok (.invokevirtual 242, 3) := by decide +kernel
theorem dX7_sayFile_60 : decode cX7_sayFile 60 = .ok (.return_, 1) := by decide +kernel
theorem dX7_digest_0 : decode cX7_digest 0 = .ok (.aload_n 0, 1) := by decide +kernel
theorem dX7_digest_1 : decode cX7_digest 1 = .ok (.ldc2_w 246, 3) := by decide +kernel
theorem dX7_digest_4 : decode cX7_digest 4 = .ok (.putfield 238, 3) := by decide +kernel
theorem dX7_digest_7 : decode cX7_digest 7 = .ok (.iconst 0, 1) := by decide +kernel
theorem dX7_digest_8 : decode cX7_digest 8 = .ok (.istore_n 1, 1) := by decide +kernel
theorem dX7_digest_9 : decode cX7_digest 9 = .ok (.iload_n 1, 1) := by decide +kernel
theorem dX7_digest_10 : decode cX7_digest 10 = .ok (.bipush 6, 2) := by decide +kernel
theorem dX7_digest_12 : decode cX7_digest 12 = .ok (.if_icmp .ge 34, 3) := by decide +kernel
theorem dX7_digest_15 : decode cX7_digest 15 = .ok (.aload_n 0, 1) := by decide +kernel
theorem dX7_digest_16 : decode cX7_digest 16 = .ok (.aload_n 0, 1) := by decide +kernel
theorem dX7_digest_17 : decode cX7_digest 17 = .ok (.getfield 13, 3) := by decide +kernel
theorem dX7_digest_20 : decode cX7_digest 20 = .ok (.iload_n 1, 1) := by decide +kernel
theorem dX7_digest_21 : decode cX7_digest 21 = .ok (.iaload, 1) := by decide +kernel
theorem dX7_digest_22 : decode cX7_digest 22 = .ok (.i2l, 1) := by decide +kernel
theorem dX7_digest_23 : decode cX7_digest 23 = .ok (.invokevirtual 242, 3) := by decide +kernel
theorem dX7_digest_26 : decode cX7_digest 26 = .ok (.aload_n 0, 1) := by decide +kernel
theorem dX7_digest_27 : decode cX7_digest 27 = .ok (.aload_n 0, 1) := by decide +kernel
theorem dX7_digest_28 : decode cX7_digest 28 = .ok (.aload_n 0, 1) := by decide +kernel
theorem dX7_digest_29 : decode cX7_digest 29 = .ok (.getfield 19, 3) := by decide +kernel
theorem dX7_digest_32 : decode cX7_digest 32 = .ok (.iload_n 1, 1) := by decide +kernel
theorem dX7_digest_33 : decode cX7_digest 33 = .ok (.invokevirtual 95, 3) := by decide +kernel
theorem dX7_digest_36 : decode cX7_digest 36 = .ok (.i2l, 1) := by decide +kernel
theorem dX7_digest_37 : decode cX7_digest 37 = .ok (.invokevirtual 242, 3) := by decide +kernel
theorem dX7_digest_40 : decode cX7_digest 40 = .ok (.iinc 1 1, 3) := by decide +kernel
theorem dX7_digest_43 : decode cX7_digest 43 = .ok (.goto (-34), 3) := by decide +kernel
theorem dX7_digest_46 : decode cX7_digest 46 = .ok (.iconst 0, 1) := by decide +kernel
theorem dX7_digest_47 : decode cX7_digest 47 = .ok (.istore_n 1, 1) := by decide +kernel
theorem dX7_digest_48 : decode cX7_digest 48 = .ok (.iload_n 1, 1) := by decide +kernel
theorem dX7_digest_49 : decode cX7_digest 49 = .ok (.aload_n 0, 1) := by decide +kernel
theorem dX7_digest_50 : decode cX7_digest 50 = .ok (.getfield 81, 3) := by decide +kernel
theorem dX7_digest_53 : decode cX7_digest 53 = .ok (.if_icmp .ge 14, 3) := by decide +kernel
theorem dX7_digest_56 : decode cX7_digest 56 = .ok (.aload_n 0, 1) := by decide +kernel
theorem dX7_digest_57 : decode cX7_digest 57 = .ok (.iload_n 1, 1) := by decide +kernel
theorem dX7_digest_58 : decode cX7_digest 58 = .ok (.invokevirtual 248, 3) := by decide +kernel
theorem dX7_digest_61 : decode cX7_digest 61 = .ok (.iinc 1 1, 3) := by decide +kernel
theorem dX7_digest_64 : decode cX7_digest 64 = .ok (.goto (-16), 3) := by decide +kernel
theorem dX7_digest_67 : decode cX7_digest 67 = .ok (.aload_n 0, 1) := by decide +kernel
theorem dX7_digest_68 : decode cX7_digest 68 = .ok (.aload_n 0, 1) := by decide +kernel
theorem dX7_digest_69 : decode cX7_digest 69 = .ok (.invokevirtual 173, 3) := by decide +kernel
theorem dX7_digest_72 : decode cX7_digest 72 = .ok (.i2l, 1) := by decide +kernel
theorem dX7_digest_73 : decode cX7_digest 73 = .ok (.invokevirtual 242, 3) := by decide +kernel
theorem dX7_digest_76 : decode cX7_digest 76 = .ok (.aload_n 0, 1) := by decide +kernel
theorem dX7_digest_77 : decode cX7_digest 77 = .ok (.invokevirtual 109, 3) := by decide +kernel
theorem dX7_digest_80 : decode cX7_digest 80 = .ok (.ifCond .ne 12, 3) := by decide +kernel
theorem dX7_digest_83 : decode cX7_digest 83 = .ok (.aload_n 0, 1) := by decide +kernel
theorem dX7_digest_84 : decode cX7_digest 84 = .ok (.aload_n 0, 1) := by decide +kernel
theorem dX7_digest_85 : decode cX7_digest 85 = .ok (.invokevirtual 197, 3) := by decide +kernel
theorem dX7_digest_88 : decode cX7_digest 88 = .ok (.i2l, 1) := by decide +kernel
theorem dX7_digest_89 : decode cX7_digest 89 = .ok (.invokevirtual 242, 3) := by decide +kernel
theorem dX7_digest_92 : decode cX7_digest 92 = .ok (.iconst 0, 1) := by decide +kernel
theorem dX7_digest_93 : decode cX7_digest 93 = .ok (.istore_n 1, 1) := by decide +kernel
theorem dX7_digest_94 : decode cX7_digest 94 = .ok (.iload_n 1, 1) := by decide +kernel
theorem dX7_digest_95 : decode cX7_digest 95 = .ok (.aload_n 0, 1) := by decide +kernel
theorem dX7_digest_96 : decode cX7_digest 96 = .ok (.getfield 65, 3) := by decide +kernel
theorem dX7_digest_99 : decode cX7_digest 99 = .ok (.if_icmp .ge 20, 3) := by decide +kernel
theorem dX7_digest_102 : decode cX7_digest 102 = .ok (.aload_n 0, 1) := by decide +kernel
theorem dX7_digest_103 : decode cX7_digest 103 = .ok (.aload_n 0, 1) := by decide +kernel
theorem dX7_digest_104 : decode cX7_digest 104 = .ok (.getfield 7, 3) := by decide +kernel
theorem dX7_digest_107 : decode cX7_digest 107 = .ok (.iload_n 1, 1) := by decide +kernel
theorem dX7_digest_108 : decode cX7_digest 108 = .ok (.iaload, 1) := by decide +kernel
theorem dX7_digest_109 : decode cX7_digest 109 = .ok (.i2l, 1) := by decide +kernel
theorem dX7_digest_110 : decode cX7_digest 110 = .ok (.invokevirtual 242, 3) := by decide +kernel
theorem dX7_digest_113 : decode cX7_digest 113 = .ok (.iinc 1 1, 3) := by decide +kernel
theorem dX7_digest_116 : decode cX7_digest 116 = .ok (.goto (-22), 3) := by decide +kernel
theorem dX7_digest_119 : decode cX7_digest 119 = .ok (.iconst 0, 1) := by decide +kernel
theorem dX7_digest_120 : decode cX7_digest 120 = .ok (.istore_n 1, 1) := by decide +kernel
theorem dX7_digest_121 : decode cX7_digest 121 = .ok (.iload_n 1, 1) := by decide +kernel
theorem dX7_digest_122 : decode cX7_digest 122 = .ok (.bipush 10, 2) := by decide +kernel
theorem dX7_digest_124 : decode cX7_digest 124 = .ok (.if_icmp .ge 19, 3) := by decide +kernel
theorem dX7_digest_127 : decode cX7_digest 127 = .ok (.aload_n 0, 1) := by decide +kernel
theorem dX7_digest_128 : decode cX7_digest 128 = .ok (.aload_n 0, 1) := by decide +kernel
theorem dX7_digest_129 : decode cX7_digest 129 = .ok (.iload_n 1, 1) := by decide +kernel
theorem dX7_digest_130 : decode cX7_digest 130 = .ok (.invokevirtual 233, 3) := by decide +kernel
theorem dX7_digest_133 : decode cX7_digest 133 = .ok (.i2l, 1) := by decide +kernel
theorem dX7_digest_134 : decode cX7_digest 134 = .ok (.invokevirtual 242, 3) := by decide +kernel
theorem dX7_digest_137 : decode cX7_digest 137 = .ok (.iinc 1 1, 3) := by decide +kernel
theorem dX7_digest_140 : decode cX7_digest 140 = .ok (.goto (-19), 3) := by decide +kernel
theorem dX7_digest_143 : decode cX7_digest 143 = .ok (.aload_n 0, 1) := by decide +kernel
theorem dX7_digest_144 : decode cX7_digest 144 = .ok (.getfield 238, 3) := by decide +kernel
theorem dX7_digest_147 : decode cX7_digest 147 = .ok (.lreturn, 1) := by decide +kernel
end
section
theorem dL_law_0 : decode cL_law 0 = .ok (.new 7, 3) := by decide +kernel
theorem dL_law_3 : decode cL_law 3 = .ok (.dup, 1) := by decide +kernel
theorem dL_law_4 : decode cL_law 4 = .ok (.invokespecial 9, 3) := by decide +kernel
theorem dL_law_7 : decode cL_law 7 = .ok (.astore_n 1, 1) := by decide +kernel
theorem dL_law_8 : decode cL_law 8 = .ok (.new 10, 3) := by decide +kernel
theorem dL_law_11 : decode cL_law 11 = .ok (.dup, 1) := by decide +kernel
theorem dL_law_12 : decode cL_law 12 = .ok (.invokespecial 12, 3) := by decide +kernel
theorem dL_law_15 : decode cL_law 15 = .ok (.astore_n 2, 1) := by decide +kernel
theorem dL_law_16 : decode cL_law 16 = .ok (.iconst 0, 1) := by decide +kernel
theorem dL_law_17 : decode cL_law 17 = .ok (.istore_n 3, 1) := by decide +kernel
theorem dL_law_18 : decode cL_law 18 = .ok (.iload_n 3, 1) := by decide +kernel
theorem dL_law_19 : decode cL_law 19 = .ok (.aload_n 0, 1) := by decide +kernel
theorem dL_law_20 : decode cL_law 20 = .ok (.arraylength, 1) := by decide +kernel
theorem dL_law_21 : decode cL_law 21 = .ok (.iconst 4, 1) := by decide +kernel
theorem dL_law_22 : decode cL_law 22 = .ok (.isub, 1) := by decide +kernel
theorem dL_law_23 : decode cL_law 23 = .ok (.if_icmp .gt 794, 3) := by decide +kernel
theorem dL_law_26 : decode cL_law 26 = .ok (.aload_n 0, 1) := by decide +kernel
theorem dL_law_27 : decode cL_law 27 = .ok (.iload_n 3, 1) := by decide +kernel
theorem dL_law_28 : decode cL_law 28 = .ok (.iaload, 1) := by decide +kernel
theorem dL_law_29 : decode cL_law 29 = .ok (.bipush 31, 2) := by decide +kernel
theorem dL_law_31 : decode cL_law 31 = .ok (.iand, 1) := by decide +kernel
theorem dL_law_32 : decode cL_law 32 = .ok (.tableswitch 779 0 25 #[120, 143, 156, 169, 182, 215, 248, 281, 314, 347, 390, 423, 446, 489, 522, 565, 578, 601, 624, 637, 650, 673, 716, 729, 742, 765], 120) := by decide +kernel
theorem dL_law_152 : decode cL_law 152 = .ok (.aload_n 1, 1) := by decide +kernel
theorem dL_law_153 : decode cL_law 153 = .ok (.aload_n 0, 1) := by decide +kernel
theorem dL_law_154 : decode cL_law 154 = .ok (.iload_n 3, 1) := by decide +kernel
theorem dL_law_155 : decode cL_law 155 = .ok (.iconst 1, 1) := by decide +kernel
theorem dL_law_156 : decode cL_law 156 = .ok (.iadd, 1) := by decide +kernel
theorem dL_law_157 : decode cL_law 157 = .ok (.iaload, 1) := by decide +kernel
theorem dL_law_158 : decode cL_law 158 = .ok (.invokevirtual 13, 3) := by decide +kernel
theorem dL_law_161 : decode cL_law 161 = .ok (.aload_n 2, 1) := by decide +kernel
theorem dL_law_162 : decode cL_law 162 = .ok (.aload_n 0, 1) := by decide +kernel
theorem dL_law_163 : decode cL_law 163 = .ok (.iload_n 3, 1) := by decide +kernel
theorem dL_law_164 : decode cL_law 164 = .ok (.iconst 1, 1) := by decide +kernel
theorem dL_law_165 : decode cL_law 165 = .ok (.iadd, 1) := by decide +kernel
theorem dL_law_166 : decode cL_law 166 = .ok (.iaload, 1) := by decide +kernel
theorem dL_law_167 : decode cL_law 167 = .ok (.invokevirtual 17, 3) := by decide +kernel
theorem dL_law_170 : decode cL_law 170 = .ok (.if_icmp .eq 641, 3) := by decide +kernel
theorem dL_law_173 : decode cL_law 173 = .ok (.iconst 0, 1) := by decide +kernel
theorem dL_law_174 : decode cL_law 174 = .ok (.ireturn, 1) := by decide +kernel
theorem dL_law_175 : decode cL_law 175 = .ok (.aload_n 1, 1) := by decide +kernel
theorem dL_law_176 : decode cL_law 176 = .ok (.invokevirtual 18, 3) := by decide +kernel
theorem dL_law_179 : decode cL_law 179 = .ok (.aload_n 2, 1) := by decide +kernel
theorem dL_law_180 : decode cL_law 180 = .ok (.invokevirtual 22, 3) := by decide +kernel
theorem dL_law_183 : decode cL_law 183 = .ok (.if_icmp .eq 628, 3) := by decide +kernel
theorem dL_law_186 : decode cL_law 186 = .ok (.iconst 0, 1) := by decide +kernel
theorem dL_law_187 : decode cL_law 187 = .ok (.ireturn, 1) := by decide +kernel
theorem dL_law_188 : decode cL_law 188 = .ok (.aload_n 1, 1) := by decide +kernel
theorem dL_law_189 : decode cL_law 189 = .ok (.invokevirtual 23, 3) := by decide +kernel
theorem dL_law_192 : decode cL_law 192 = .ok (.aload_n 2, 1) := by decide +kernel
theorem dL_law_193 : decode cL_law 193 = .ok (.invokevirtual 26, 3) := by decide +kernel
theorem dL_law_196 : decode cL_law 196 = .ok (.if_icmp .eq 615, 3) := by decide +kernel
theorem dL_law_199 : decode cL_law 199 = .ok (.iconst 0, 1) := by decide +kernel
theorem dL_law_200 : decode cL_law 200 = .ok (.ireturn, 1) := by decide +kernel
theorem dL_law_201 : decode cL_law 201 = .ok (.aload_n 1, 1) := by decide +kernel
theorem dL_law_202 : decode cL_law 202 = .ok (.invokevirtual 27, 3) := by decide +kernel
theorem dL_law_205 : decode cL_law 205 = .ok (.aload_n 2, 1) := by decide +kernel
theorem dL_law_206 : decode cL_law 206 = .ok (.invokevirtual 30, 3) := by decide +kernel
theorem dL_law_209 : decode cL_law 209 = .ok (.if_icmp .eq 602, 3) := by decide +kernel
theorem dL_law_212 : decode cL_law 212 = .ok (.iconst 0, 1) := by decide +kernel
theorem dL_law_213 : decode cL_law 213 = .ok (.ireturn, 1) := by decide +kernel
theorem dL_law_214 : decode cL_law 214 = .ok (.aload_n 1, 1) := by decide +kernel
theorem dL_law_215 : decode cL_law 215 = .ok (.aload_n 0, 1) := by decide +kernel
theorem dL_law_216 : decode cL_law 216 = .ok (.iload_n 3, 1) := by decide +kernel
theorem dL_law_217 : decode cL_law 217 = .ok (.iconst 1, 1) := by decide +kernel
theorem dL_law_218 : decode cL_law 218 = .ok (.iadd, 1) := by decide +kernel
theorem dL_law_219 : decode cL_law 219 = .ok (.iaload, 1) := by decide +kernel
theorem dL_law_220 : decode cL_law 220 = .ok (.aload_n 0, 1) := by decide +kernel
theorem dL_law_221 : decode cL_law 221 = .ok (.iload_n 3, 1) := by decide +kernel
theorem dL_law_222 : decode cL_law 222 = .ok (.iconst 2, 1) := by decide +kernel
theorem dL_law_223 : decode cL_law 223 = .ok (.iadd, 1) := by decide +kernel
theorem dL_law_224 : decode cL_law 224 = .ok (.iaload, 1) := by decide +kernel
theorem dL_law_225 : decode cL_law 225 = .ok (.invokevirtual 31, 3) := by decide +kernel
theorem dL_law_228 : decode cL_law 228 = .ok (.aload_n 2, 1) := by decide +kernel
theorem dL_law_229 : decode cL_law 229 = .ok (.aload_n 0, 1) := by decide +kernel
theorem dL_law_230 : decode cL_law 230 = .ok (.iload_n 3, 1) := by decide +kernel
theorem dL_law_231 : decode cL_law 231 = .ok (.iconst 1, 1) := by decide +kernel
theorem dL_law_232 : decode cL_law 232 = .ok (.iadd, 1) := by decide +kernel
theorem dL_law_233 : decode cL_law 233 = .ok (.iaload, 1) := by decide +kernel
theorem dL_law_234 : decode cL_law 234 = .ok (.aload_n 0, 1) := by decide +kernel
theorem dL_law_235 : decode cL_law 235 = .ok (.iload_n 3, 1) := by decide +kernel
theorem dL_law_236 : decode cL_law 236 = .ok (.iconst 2, 1) := by decide +kernel
theorem dL_law_237 : decode cL_law 237 = .ok (.iadd, 1) := by decide +kernel
theorem dL_law_238 : decode cL_law 238 = .ok (.iaload, 1) := by decide +kernel
theorem dL_law_239 : decode cL_law 239 = .ok (.invokevirtual 35, 3) := by decide +kernel
theorem dL_law_242 : decode cL_law 242 = .ok (.if_icmp .eq 569, 3) := by decide +kernel
theorem dL_law_245 : decode cL_law 245 = .ok (.iconst 0, 1) := by decide +kernel
theorem dL_law_246 : decode cL_law 246 = .ok (.ireturn, 1) := by decide +kernel
theorem dL_law_247 : decode cL_law 247 = .ok (.aload_n 1, 1) := by decide +kernel
theorem dL_law_248 : decode cL_law 248 = .ok (.aload_n 0, 1) := by decide +kernel
theorem dL_law_249 : decode cL_law 249 = .ok (.iload_n 3, 1) := by decide +kernel
theorem dL_law_250 : decode cL_law 250 = .ok (.iconst 1, 1) := by decide +kernel
theorem dL_law_251 : decode cL_law 251 = .ok (.iadd, 1) := by decide +kernel
theorem dL_law_252 : decode cL_law 252 = .ok (.iaload, 1) := by decide +kernel
theorem dL_law_253 : decode cL_law 253 = .ok (.aload_n 0, 1) := by decide +kernel
theorem dL_law_254 : decode cL_law 254 = .ok (.iload_n 3, 1) := by decide +kernel
theorem dL_law_255 : decode cL_law 255 = .ok (.iconst 2, 1) := by decide +kernel
theorem dL_law_256 : decode cL_law 256 = .ok (.iadd, 1) := by decide +kernel
theorem dL_law_257 : decode cL_law 257 = .ok (.iaload, 1) := by decide +kernel
theorem dL_law_258 : decode cL_law 258 = .ok (.invokevirtual 36, 3) := by decide +kernel
theorem dL_law_261 : decode cL_law 261 = .ok (.aload_n 2, 1) := by decide +kernel
theorem dL_law_262 : decode cL_law 262 = .ok (.aload_n 0, 1) := by decide +kernel
theorem dL_law_263 : decode cL_law 263 = .ok (.iload_n 3, 1) := by decide +kernel
theorem dL_law_264 : decode cL_law 264 = .ok (.iconst 1, 1) := by decide +kernel
theorem dL_law_265 : decode cL_law 265 = .ok (.iadd, 1) := by decide +kernel
theorem dL_law_266 : decode cL_law 266 = .ok (.iaload, 1) := by decide +kernel
theorem dL_law_267 : decode cL_law 267 = .ok (.aload_n 0, 1) := by decide +kernel
theorem dL_law_268 : decode cL_law 268 = .ok (.iload_n 3, 1) := by decide +kernel
theorem dL_law_269 : decode cL_law 269 = .ok (.iconst 2, 1) := by decide +kernel
theorem dL_law_270 : decode cL_law 270 = .ok (.iadd, 1) := by decide +kernel
theorem dL_law_271 : decode cL_law 271 = .ok (.iaload, 1) := by decide +kernel
theorem dL_law_272 : decode cL_law 272 = .ok (.invokevirtual 39, 3) := by decide +kernel
theorem dL_law_275 : decode cL_law 275 = .ok (.if_icmp .eq 536, 3) := by decide +kernel
theorem dL_law_278 : decode cL_law 278 = .ok (.iconst 0, 1) := by decide +kernel
theorem dL_law_279 : decode cL_law 279 = .ok (.ireturn, 1) := by decide +kernel
theorem dL_law_280 : decode cL_law 280 = .ok (.aload_n 1, 1) := by decide +kernel
theorem dL_law_281 : decode cL_law 281 = .ok (.aload_n 0, 1) := by decide +kernel
theorem dL_law_282 : decode cL_law 282 = .ok (.iload_n 3, 1) := by decide +kernel
theorem dL_law_283 : decode cL_law 283 = .ok (.iconst 1, 1) := by decide +kernel
theorem dL_law_284 : decode cL_law 284 = .ok (.iadd, 1) := by decide +kernel
theorem dL_law_285 : decode cL_law 285 = .ok (.iaload, 1) := by decide +kernel
theorem dL_law_286 : decode cL_law 286 = .ok (.aload_n 0, 1) := by decide +kernel
theorem dL_law_287 : decode cL_law 287 = .ok (.iload_n 3, 1) := by decide +kernel
theorem dL_law_288 : decode cL_law 288 = .ok (.iconst 2, 1) := by decide +kernel
theorem dL_law_289 : decode cL_law 289 = .ok (.iadd, 1) := by decide +kernel
theorem dL_law_290 : decode cL_law 290 = .ok (.iaload, 1) := by decide +kernel
theorem dL_law_291 : decode cL_law 291 = .ok (.invokevirtual 40, 3) := by decide +kernel
theorem dL_law_294 : decode cL_law 294 = .ok (.aload_n 2, 1) := by decide +kernel
theorem dL_law_295 : decode cL_law 295 = .ok (.aload_n 0, 1) := by decide +kernel
theorem dL_law_296 : decode cL_law 296 = .ok (.iload_n 3, 1) := by decide +kernel
theorem dL_law_297 : decode cL_law 297 = .ok (.iconst 1, 1) := by decide +kernel
theorem dL_law_298 : decode cL_law 298 = .ok (.iadd, 1) := by decide +kernel
theorem dL_law_299 : decode cL_law 299 = .ok (.iaload, 1) := by decide +kernel
theorem dL_law_300 : decode cL_law 300 = .ok (.aload_n 0, 1) := by decide +kernel
theorem dL_law_301 : decode cL_law 301 = .ok (.iload_n 3, 1) := by decide +kernel
theorem dL_law_302 : decode cL_law 302 = .ok (.iconst 2, 1) := by decide +kernel
theorem dL_law_303 : decode cL_law 303 = .ok (.iadd, 1) := by decide +kernel
theorem dL_law_304 : decode cL_law 304 = .ok (.iaload, 1) := by decide +kernel
theorem dL_law_305 : decode cL_law 305 = .ok (.invokevirtual 43, 3) := by decide +kernel
theorem dL_law_308 : decode cL_law 308 = .ok (.if_icmp .eq 503, 3) := by decide +kernel
theorem dL_law_311 : decode cL_law 311 = .ok (.iconst 0, 1) := by decide +kernel
theorem dL_law_312 : decode cL_law 312 = .ok (.ireturn, 1) := by decide +kernel
theorem dL_law_313 : decode cL_law 313 = .ok (.aload_n 1, 1) := by decide +kernel
theorem dL_law_314 : decode cL_law 314 = .ok (.aload_n 0, 1) := by decide +kernel
theorem dL_law_315 : decode cL_law 315 = .ok (.iload_n 3, 1) := by decide +kernel
theorem dL_law_316 : decode cL_law 316 = .ok (.iconst 1, 1) := by decide +kernel
theorem dL_law_317 : decode cL_law 317 = .ok (.iadd, 1) := by decide +kernel
theorem dL_law_318 : decode cL_law 318 = .ok (.iaload, 1) := by decide +kernel
theorem dL_law_319 : decode cL_law 319 = .ok (.aload_n 0, 1) := by decide +kernel
theorem dL_law_320 : decode cL_law 320 = .ok (.iload_n 3, 1) := by decide +kernel
theorem dL_law_321 : decode cL_law 321 = .ok (.iconst 2, 1) := by decide +kernel
theorem dL_law_322 : decode cL_law 322 = .ok (.iadd, 1) := by decide +kernel
theorem dL_law_323 : decode cL_law 323 = .ok (.iaload, 1) := by decide +kernel
theorem dL_law_324 : decode cL_law 324 = .ok (.invokevirtual 44, 3) := by decide +kernel
theorem dL_law_327 : decode cL_law 327 = .ok (.aload_n 2, 1) := by decide +kernel
theorem dL_law_328 : decode cL_law 328 = .ok (.aload_n 0, 1) := by decide +kernel
theorem dL_law_329 : decode cL_law 329 = .ok (.iload_n 3, 1) := by decide +kernel
theorem dL_law_330 : decode cL_law 330 = .ok (.iconst 1, 1) := by decide +kernel
theorem dL_law_331 : decode cL_law 331 = .ok (.iadd, 1) := by decide +kernel
theorem dL_law_332 : decode cL_law 332 = .ok (.iaload, 1) := by decide +kernel
theorem dL_law_333 : decode cL_law 333 = .ok (.aload_n 0, 1) := by decide +kernel
theorem dL_law_334 : decode cL_law 334 = .ok (.iload_n 3, 1) := by decide +kernel
theorem dL_law_335 : decode cL_law 335 = .ok (.iconst 2, 1) := by decide +kernel
theorem dL_law_336 : decode cL_law 336 = .ok (.iadd, 1) := by decide +kernel
theorem dL_law_337 : decode cL_law 337 = .ok (.iaload, 1) := by decide +kernel
theorem dL_law_338 : decode cL_law 338 = .ok (.invokevirtual 47, 3) := by decide +kernel
theorem dL_law_341 : decode cL_law 341 = .ok (.if_icmp .eq 470, 3) := by decide +kernel
theorem dL_law_344 : decode cL_law 344 = .ok (.iconst 0, 1) := by decide +kernel
theorem dL_law_345 : decode cL_law 345 = .ok (.ireturn, 1) := by decide +kernel
theorem dL_law_346 : decode cL_law 346 = .ok (.aload_n 1, 1) := by decide +kernel
theorem dL_law_347 : decode cL_law 347 = .ok (.aload_n 0, 1) := by decide +kernel
theorem dL_law_348 : decode cL_law 348 = .ok (.iload_n 3, 1) := by decide +kernel
theorem dL_law_349 : decode cL_law 349 = .ok (.iconst 1, 1) := by decide +kernel
theorem dL_law_350 : decode cL_law 350 = .ok (.iadd, 1) := by decide +kernel
theorem dL_law_351 : decode cL_law 351 = .ok (.iaload, 1) := by decide +kernel
theorem dL_law_352 : decode cL_law 352 = .ok (.aload_n 0, 1) := by decide +kernel
theorem dL_law_353 : decode cL_law 353 = .ok (.iload_n 3, 1) := by decide +kernel
theorem dL_law_354 : decode cL_law 354 = .ok (.iconst 2, 1) := by decide +kernel
theorem dL_law_355 : decode cL_law 355 = .ok (.iadd, 1) := by decide +kernel
theorem dL_law_356 : decode cL_law 356 = .ok (.iaload, 1) := by decide +kernel
theorem dL_law_357 : decode cL_law 357 = .ok (.invokevirtual 48, 3) := by decide +kernel
theorem dL_law_360 : decode cL_law 360 = .ok (.aload_n 2, 1) := by decide +kernel
theorem dL_law_361 : decode cL_law 361 = .ok (.aload_n 0, 1) := by decide +kernel
theorem dL_law_362 : decode cL_law 362 = .ok (.iload_n 3, 1) := by decide +kernel
theorem dL_law_363 : decode cL_law 363 = .ok (.iconst 1, 1) := by decide +kernel
theorem dL_law_364 : decode cL_law 364 = .ok (.iadd, 1) := by decide +kernel
theorem dL_law_365 : decode cL_law 365 = .ok (.iaload, 1) := by decide +kernel
theorem dL_law_366 : decode cL_law 366 = .ok (.aload_n 0, 1) := by decide +kernel
theorem dL_law_367 : decode cL_law 367 = .ok (.iload_n 3, 1) := by decide +kernel
theorem dL_law_368 : decode cL_law 368 = .ok (.iconst 2, 1) := by decide +kernel
theorem dL_law_369 : decode cL_law 369 = .ok (.iadd, 1) := by decide +kernel
theorem dL_law_370 : decode cL_law 370 = .ok (.iaload, 1) := by decide +kernel
theorem dL_law_371 : decode cL_law 371 = .ok (.invokevirtual 51, 3) := by decide +kernel
theorem dL_law_374 : decode cL_law 374 = .ok (.if_icmp .eq 437, 3) := by decide +kernel
theorem dL_law_377 : decode cL_law 377 = .ok (.iconst 0, 1) := by decide +kernel
theorem dL_law_378 : decode cL_law 378 = .ok (.ireturn, 1) := by decide +kernel
theorem dL_law_379 : decode cL_law 379 = .ok (.aload_n 1, 1) := by decide +kernel
theorem dL_law_380 : decode cL_law 380 = .ok (.aload_n 0, 1) := by decide +kernel
theorem dL_law_381 : decode cL_law 381 = .ok (.iload_n 3, 1) := by decide +kernel
theorem dL_law_382 : decode cL_law 382 = .ok (.iconst 1, 1) := by decide +kernel
theorem dL_law_383 : decode cL_law 383 = .ok (.iadd, 1) := by decide +kernel
theorem dL_law_384 : decode cL_law 384 = .ok (.iaload, 1) := by decide +kernel
theorem dL_law_385 : decode cL_law 385 = .ok (.aload_n 0, 1) := by decide +kernel
theorem dL_law_386 : decode cL_law 386 = .ok (.iload_n 3, 1) := by decide +kernel
theorem dL_law_387 : decode cL_law 387 = .ok (.iconst 2, 1) := by decide +kernel
theorem dL_law_388 : decode cL_law 388 = .ok (.iadd, 1) := by decide +kernel
theorem dL_law_389 : decode cL_law 389 = .ok (.iaload, 1) := by decide +kernel
theorem dL_law_390 : decode cL_law 390 = .ok (.aload_n 0, 1) := by decide +kernel
theorem dL_law_391 : decode cL_law 391 = .ok (.iload_n 3, 1) := by decide +kernel
theorem dL_law_392 : decode cL_law 392 = .ok (.iconst 3, 1) := by decide +kernel
theorem dL_law_393 : decode cL_law 393 = .ok (.iadd, 1) := by decide +kernel
theorem dL_law_394 : decode cL_law 394 = .ok (.iaload, 1) := by decide +kernel
theorem dL_law_395 : decode cL_law 395 = .ok (.invokevirtual 52, 3) := by decide +kernel
theorem dL_law_398 : decode cL_law 398 = .ok (.aload_n 2, 1) := by decide +kernel
theorem dL_law_399 : decode cL_law 399 = .ok (.aload_n 0, 1) := by decide +kernel
theorem dL_law_400 : decode cL_law 400 = .ok (.iload_n 3, 1) := by decide +kernel
theorem dL_law_401 : decode cL_law 401 = .ok (.iconst 1, 1) := by decide +kernel
theorem dL_law_402 : decode cL_law 402 = .ok (.iadd, 1) := by decide +kernel
theorem dL_law_403 : decode cL_law 403 = .ok (.iaload, 1) := by decide +kernel
theorem dL_law_404 : decode cL_law 404 = .ok (.aload_n 0, 1) := by decide +kernel
theorem dL_law_405 : decode cL_law 405 = .ok (.iload_n 3, 1) := by decide +kernel
theorem dL_law_406 : decode cL_law 406 = .ok (.iconst 2, 1) := by decide +kernel
theorem dL_law_407 : decode cL_law 407 = .ok (.iadd, 1) := by decide +kernel
theorem dL_law_408 : decode cL_law 408 = .ok (.iaload, 1) := by decide +kernel
theorem dL_law_409 : decode cL_law 409 = .ok (.aload_n 0, 1) := by decide +kernel
theorem dL_law_410 : decode cL_law 410 = .ok (.iload_n 3, 1) := by decide +kernel
theorem dL_law_411 : decode cL_law 411 = .ok (.iconst 3, 1) := by decide +kernel
theorem dL_law_412 : decode cL_law 412 = .ok (.iadd, 1) := by decide +kernel
theorem dL_law_413 : decode cL_law 413 = .ok (.iaload, 1) := by decide +kernel
theorem dL_law_414 : decode cL_law 414 = .ok (.invokevirtual 56, 3) := by decide +kernel
theorem dL_law_417 : decode cL_law 417 = .ok (.if_icmp .eq 394, 3) := by decide +kernel
theorem dL_law_420 : decode cL_law 420 = .ok (.iconst 0, 1) := by decide +kernel
theorem dL_law_421 : decode cL_law 421 = .ok (.ireturn, 1) := by decide +kernel
theorem dL_law_422 : decode cL_law 422 = .ok (.aload_n 1, 1) := by decide +kernel
theorem dL_law_423 : decode cL_law 423 = .ok (.aload_n 0, 1) := by decide +kernel
theorem dL_law_424 : decode cL_law 424 = .ok (.iload_n 3, 1) := by decide +kernel
theorem dL_law_425 : decode cL_law 425 = .ok (.iconst 1, 1) := by decide +kernel
theorem dL_law_426 : decode cL_law 426 = .ok (.iadd, 1) := by decide +kernel
theorem dL_law_427 : decode cL_law 427 = .ok (.iaload, 1) := by decide +kernel
theorem dL_law_428 : decode cL_law 428 = .ok (.aload_n 0, 1) := by decide +kernel
theorem dL_law_429 : decode cL_law 429 = .ok (.iload_n 3, 1) := by decide +kernel
theorem dL_law_430 : decode cL_law 430 = .ok (.iconst 2, 1) := by decide +kernel
theorem dL_law_431 : decode cL_law 431 = .ok (.iadd, 1) := by decide +kernel
theorem dL_law_432 : decode cL_law 432 = .ok (.iaload, 1) := by decide +kernel
theorem dL_law_433 : decode cL_law 433 = .ok (.invokevirtual 57, 3) := by decide +kernel
theorem dL_law_436 : decode cL_law 436 = .ok (.aload_n 2, 1) := by decide +kernel
theorem dL_law_437 : decode cL_law 437 = .ok (.aload_n 0, 1) := by decide +kernel
theorem dL_law_438 : decode cL_law 438 = .ok (.iload_n 3, 1) := by decide +kernel
theorem dL_law_439 : decode cL_law 439 = .ok (.iconst 1, 1) := by decide +kernel
theorem dL_law_440 : decode cL_law 440 = .ok (.iadd, 1) := by decide +kernel
theorem dL_law_441 : decode cL_law 441 = .ok (.iaload, 1) := by decide +kernel
theorem dL_law_442 : decode cL_law 442 = .ok (.aload_n 0, 1) := by decide +kernel
theorem dL_law_443 : decode cL_law 443 = .ok (.iload_n 3, 1) := by decide +kernel
theorem dL_law_444 : decode cL_law 444 = .ok (.iconst 2, 1) := by decide +kernel
theorem dL_law_445 : decode cL_law 445 = .ok (.iadd, 1) := by decide +kernel
theorem dL_law_446 : decode cL_law 446 = .ok (.iaload, 1) := by decide +kernel
theorem dL_law_447 : decode cL_law 447 = .ok (.invokevirtual 60, 3) := by decide +kernel
theorem dL_law_450 : decode cL_law 450 = .ok (.if_icmp .eq 361, 3) := by decide +kernel
theorem dL_law_453 : decode cL_law 453 = .ok (.iconst 0, 1) := by decide +kernel
theorem dL_law_454 : decode cL_law 454 = .ok (.ireturn, 1) := by decide +kernel
theorem dL_law_455 : decode cL_law 455 = .ok (.aload_n 1, 1) := by decide +kernel
theorem dL_law_456 : decode cL_law 456 = .ok (.aload_n 0, 1) := by decide +kernel
theorem dL_law_457 : decode cL_law 457 = .ok (.iload_n 3, 1) := by decide +kernel
theorem dL_law_458 : decode cL_law 458 = .ok (.iconst 1, 1) := by decide +kernel
theorem dL_law_459 : decode cL_law 459 = .ok (.iadd, 1) := by decide +kernel
theorem dL_law_460 : decode cL_law 460 = .ok (.iaload, 1) := by decide +kernel
theorem dL_law_461 : decode cL_law 461 = .ok (.invokevirtual 61, 3) := by decide +kernel
theorem dL_law_464 : decode cL_law 464 = .ok (.aload_n 2, 1) := by decide +kernel
theorem dL_law_465 : decode cL_law 465 = .ok (.aload_n 0, 1) := by decide +kernel
theorem dL_law_466 : decode cL_law 466 = .ok (.iload_n 3, 1) := by decide +kernel
theorem dL_law_467 : decode cL_law 467 = .ok (.iconst 1, 1) := by decide +kernel
theorem dL_law_468 : decode cL_law 468 = .ok (.iadd, 1) := by decide +kernel
theorem dL_law_469 : decode cL_law 469 = .ok (.iaload, 1) := by decide +kernel
theorem dL_law_470 : decode cL_law 470 = .ok (.invokevirtual 64, 3) := by decide +kernel
theorem dL_law_473 : decode cL_law 473 = .ok (.if_icmp .eq 338, 3) := by decide +kernel
theorem dL_law_476 : decode cL_law 476 = .ok (.iconst 0, 1) := by decide +kernel
theorem dL_law_477 : decode cL_law 477 = .ok (.ireturn, 1) := by decide +kernel
theorem dL_law_478 : decode cL_law 478 = .ok (.aload_n 1, 1) := by decide +kernel
theorem dL_law_479 : decode cL_law 479 = .ok (.aload_n 0, 1) := by decide +kernel
theorem dL_law_480 : decode cL_law 480 = .ok (.iload_n 3, 1) := by decide +kernel
theorem dL_law_481 : decode cL_law 481 = .ok (.iconst 1, 1) := by decide +kernel
theorem dL_law_482 : decode cL_law 482 = .ok (.iadd, 1) := by decide +kernel
theorem dL_law_483 : decode cL_law 483 = .ok (.iaload, 1) := by decide +kernel
theorem dL_law_484 : decode cL_law 484 = .ok (.aload_n 0, 1) := by decide +kernel
theorem dL_law_485 : decode cL_law 485 = .ok (.iload_n 3, 1) := by decide +kernel
theorem dL_law_486 : decode cL_law 486 = .ok (.iconst 2, 1) := by decide +kernel
theorem dL_law_487 : decode cL_law 487 = .ok (.iadd, 1) := by decide +kernel
theorem dL_law_488 : decode cL_law 488 = .ok (.iaload, 1) := by decide +kernel
theorem dL_law_489 : decode cL_law 489 = .ok (.aload_n 0, 1) := by decide +kernel
theorem dL_law_490 : decode cL_law 490 = .ok (.iload_n 3, 1) := by decide +kernel
theorem dL_law_491 : decode cL_law 491 = .ok (.iconst 3, 1) := by decide +kernel
theorem dL_law_492 : decode cL_law 492 = .ok (.iadd, 1) := by decide +kernel
theorem dL_law_493 : decode cL_law 493 = .ok (.iaload, 1) := by decide +kernel
theorem dL_law_494 : decode cL_law 494 = .ok (.invokevirtual 65, 3) := by decide +kernel
theorem dL_law_497 : decode cL_law 497 = .ok (.aload_n 2, 1) := by decide +kernel
theorem dL_law_498 : decode cL_law 498 = .ok (.aload_n 0, 1) := by decide +kernel
theorem dL_law_499 : decode cL_law 499 = .ok (.iload_n 3, 1) := by decide +kernel
theorem dL_law_500 : decode cL_law 500 = .ok (.iconst 1, 1) := by decide +kernel
theorem dL_law_501 : decode cL_law 501 = .ok (.iadd, 1) := by decide +kernel
theorem dL_law_502 : decode cL_law 502 = .ok (.iaload, 1) := by decide +kernel
theorem dL_law_503 : decode cL_law 503 = .ok (.aload_n 0, 1) := by decide +kernel
theorem dL_law_504 : decode cL_law 504 = .ok (.iload_n 3, 1) := by decide +kernel
theorem dL_law_505 : decode cL_law 505 = .ok (.iconst 2, 1) := by decide +kernel
theorem dL_law_506 : decode cL_law 506 = .ok (.iadd, 1) := by decide +kernel
theorem dL_law_507 : decode cL_law 507 = .ok (.iaload, 1) := by decide +kernel
theorem dL_law_508 : decode cL_law 508 = .ok (.aload_n 0, 1) := by decide +kernel
theorem dL_law_509 : decode cL_law 509 = .ok (.iload_n 3, 1) := by decide +kernel
theorem dL_law_510 : decode cL_law 510 = .ok (.iconst 3, 1) := by decide +kernel
theorem dL_law_511 : decode cL_law 511 = .ok (.iadd, 1) := by decide +kernel
theorem dL_law_512 : decode cL_law 512 = .ok (.iaload, 1) := by decide +kernel
theorem dL_law_513 : decode cL_law 513 = .ok (.invokevirtual 68, 3) := by decide +kernel
theorem dL_law_516 : decode cL_law 516 = .ok (.if_icmp .eq 295, 3) := by decide +kernel
theorem dL_law_519 : decode cL_law 519 = .ok (.iconst 0, 1) := by decide +kernel
theorem dL_law_520 : decode cL_law 520 = .ok (.ireturn, 1) := by decide +kernel
theorem dL_law_521 : decode cL_law 521 = .ok (.aload_n 1, 1) := by decide +kernel
theorem dL_law_522 : decode cL_law 522 = .ok (.aload_n 0, 1) := by decide +kernel
theorem dL_law_523 : decode cL_law 523 = .ok (.iload_n 3, 1) := by decide +kernel
theorem dL_law_524 : decode cL_law 524 = .ok (.iconst 1, 1) := by decide +kernel
theorem dL_law_525 : decode cL_law 525 = .ok (.iadd, 1) := by decide +kernel
theorem dL_law_526 : decode cL_law 526 = .ok (.iaload, 1) := by decide +kernel
theorem dL_law_527 : decode cL_law 527 = .ok (.aload_n 0, 1) := by decide +kernel
theorem dL_law_528 : decode cL_law 528 = .ok (.iload_n 3, 1) := by decide +kernel
theorem dL_law_529 : decode cL_law 529 = .ok (.iconst 2, 1) := by decide +kernel
theorem dL_law_530 : decode cL_law 530 = .ok (.iadd, 1) := by decide +kernel
theorem dL_law_531 : decode cL_law 531 = .ok (.iaload, 1) := by decide +kernel
theorem dL_law_532 : decode cL_law 532 = .ok (.invokevirtual 69, 3) := by decide +kernel
theorem dL_law_535 : decode cL_law 535 = .ok (.aload_n 2, 1) := by decide +kernel
theorem dL_law_536 : decode cL_law 536 = .ok (.aload_n 0, 1) := by decide +kernel
theorem dL_law_537 : decode cL_law 537 = .ok (.iload_n 3, 1) := by decide +kernel
theorem dL_law_538 : decode cL_law 538 = .ok (.iconst 1, 1) := by decide +kernel
theorem dL_law_539 : decode cL_law 539 = .ok (.iadd, 1) := by decide +kernel
theorem dL_law_540 : decode cL_law 540 = .ok (.iaload, 1) := by decide +kernel
theorem dL_law_541 : decode cL_law 541 = .ok (.aload_n 0, 1) := by decide +kernel
theorem dL_law_542 : decode cL_law 542 = .ok (.iload_n 3, 1) := by decide +kernel
theorem dL_law_543 : decode cL_law 543 = .ok (.iconst 2, 1) := by decide +kernel
theorem dL_law_544 : decode cL_law 544 = .ok (.iadd, 1) := by decide +kernel
theorem dL_law_545 : decode cL_law 545 = .ok (.iaload, 1) := by decide +kernel
theorem dL_law_546 : decode cL_law 546 = .ok (.invokevirtual 72, 3) := by decide +kernel
theorem dL_law_549 : decode cL_law 549 = .ok (.if_icmp .eq 262, 3) := by decide +kernel
theorem dL_law_552 : decode cL_law 552 = .ok (.iconst 0, 1) := by decide +kernel
theorem dL_law_553 : decode cL_law 553 = .ok (.ireturn, 1) := by decide +kernel
theorem dL_law_554 : decode cL_law 554 = .ok (.aload_n 1, 1) := by decide +kernel
theorem dL_law_555 : decode cL_law 555 = .ok (.aload_n 0, 1) := by decide +kernel
theorem dL_law_556 : decode cL_law 556 = .ok (.iload_n 3, 1) := by decide +kernel
theorem dL_law_557 : decode cL_law 557 = .ok (.iconst 1, 1) := by decide +kernel
theorem dL_law_558 : decode cL_law 558 = .ok (.iadd, 1) := by decide +kernel
theorem dL_law_559 : decode cL_law 559 = .ok (.iaload, 1) := by decide +kernel
theorem dL_law_560 : decode cL_law 560 = .ok (.aload_n 0, 1) := by decide +kernel
theorem dL_law_561 : decode cL_law 561 = .ok (.iload_n 3, 1) := by decide +kernel
theorem dL_law_562 : decode cL_law 562 = .ok (.iconst 2, 1) := by decide +kernel
theorem dL_law_563 : decode cL_law 563 = .ok (.iadd, 1) := by decide +kernel
theorem dL_law_564 : decode cL_law 564 = .ok (.iaload, 1) := by decide +kernel
theorem dL_law_565 : decode cL_law 565 = .ok (.aload_n 0, 1) := by decide +kernel
theorem dL_law_566 : decode cL_law 566 = .ok (.iload_n 3, 1) := by decide +kernel
theorem dL_law_567 : decode cL_law 567 = .ok (.iconst 3, 1) := by decide +kernel
theorem dL_law_568 : decode cL_law 568 = .ok (.iadd, 1) := by decide +kernel
theorem dL_law_569 : decode cL_law 569 = .ok (.iaload, 1) := by decide +kernel
theorem dL_law_570 : decode cL_law 570 = .ok (.invokevirtual 73, 3) := by decide +kernel
theorem dL_law_573 : decode cL_law 573 = .ok (.aload_n 2, 1) := by decide +kernel
theorem dL_law_574 : decode cL_law 574 = .ok (.aload_n 0, 1) := by decide +kernel
theorem dL_law_575 : decode cL_law 575 = .ok (.iload_n 3, 1) := by decide +kernel
theorem dL_law_576 : decode cL_law 576 = .ok (.iconst 1, 1) := by decide +kernel
theorem dL_law_577 : decode cL_law 577 = .ok (.iadd, 1) := by decide +kernel
theorem dL_law_578 : decode cL_law 578 = .ok (.iaload, 1) := by decide +kernel
theorem dL_law_579 : decode cL_law 579 = .ok (.aload_n 0, 1) := by decide +kernel
theorem dL_law_580 : decode cL_law 580 = .ok (.iload_n 3, 1) := by decide +kernel
theorem dL_law_581 : decode cL_law 581 = .ok (.iconst 2, 1) := by decide +kernel
theorem dL_law_582 : decode cL_law 582 = .ok (.iadd, 1) := by decide +kernel
theorem dL_law_583 : decode cL_law 583 = .ok (.iaload, 1) := by decide +kernel
theorem dL_law_584 : decode cL_law 584 = .ok (.aload_n 0, 1) := by decide +kernel
theorem dL_law_585 : decode cL_law 585 = .ok (.iload_n 3, 1) := by decide +kernel
theorem dL_law_586 : decode cL_law 586 = .ok (.iconst 3, 1) := by decide +kernel
theorem dL_law_587 : decode cL_law 587 = .ok (.iadd, 1) := by decide +kernel
theorem dL_law_588 : decode cL_law 588 = .ok (.iaload, 1) := by decide +kernel
theorem dL_law_589 : decode cL_law 589 = .ok (.invokevirtual 76, 3) := by decide +kernel
theorem dL_law_592 : decode cL_law 592 = .ok (.if_icmp .eq 219, 3) := by decide +kernel
theorem dL_law_595 : decode cL_law 595 = .ok (.iconst 0, 1) := by decide +kernel
theorem dL_law_596 : decode cL_law 596 = .ok (.ireturn, 1) := by decide +kernel
theorem dL_law_597 : decode cL_law 597 = .ok (.aload_n 1, 1) := by decide +kernel
theorem dL_law_598 : decode cL_law 598 = .ok (.invokevirtual 77, 3) := by decide +kernel
theorem dL_law_601 : decode cL_law 601 = .ok (.aload_n 2, 1) := by decide +kernel
theorem dL_law_602 : decode cL_law 602 = .ok (.invokevirtual 80, 3) := by decide +kernel
theorem dL_law_605 : decode cL_law 605 = .ok (.if_icmp .eq 206, 3) := by decide +kernel
theorem dL_law_608 : decode cL_law 608 = .ok (.iconst 0, 1) := by decide +kernel
theorem dL_law_609 : decode cL_law 609 = .ok (.ireturn, 1) := by decide +kernel
theorem dL_law_610 : decode cL_law 610 = .ok (.aload_n 1, 1) := by decide +kernel
theorem dL_law_611 : decode cL_law 611 = .ok (.aload_n 0, 1) := by decide +kernel
theorem dL_law_612 : decode cL_law 612 = .ok (.iload_n 3, 1) := by decide +kernel
theorem dL_law_613 : decode cL_law 613 = .ok (.iconst 1, 1) := by decide +kernel
theorem dL_law_614 : decode cL_law 614 = .ok (.iadd, 1) := by decide +kernel
theorem dL_law_615 : decode cL_law 615 = .ok (.iaload, 1) := by decide +kernel
theorem dL_law_616 : decode cL_law 616 = .ok (.invokevirtual 81, 3) := by decide +kernel
theorem dL_law_619 : decode cL_law 619 = .ok (.aload_n 2, 1) := by decide +kernel
theorem dL_law_620 : decode cL_law 620 = .ok (.aload_n 0, 1) := by decide +kernel
theorem dL_law_621 : decode cL_law 621 = .ok (.iload_n 3, 1) := by decide +kernel
theorem dL_law_622 : decode cL_law 622 = .ok (.iconst 1, 1) := by decide +kernel
theorem dL_law_623 : decode cL_law 623 = .ok (.iadd, 1) := by decide +kernel
theorem dL_law_624 : decode cL_law 624 = .ok (.iaload, 1) := by decide +kernel
theorem dL_law_625 : decode cL_law 625 = .ok (.invokevirtual 84, 3) := by decide +kernel
theorem dL_law_628 : decode cL_law 628 = .ok (.if_icmp .eq 183, 3) := by decide +kernel
theorem dL_law_631 : decode cL_law 631 = .ok (.iconst 0, 1) := by decide +kernel
theorem dL_law_632 : decode cL_law 632 = .ok (.ireturn, 1) := by decide +kernel
theorem dL_law_633 : decode cL_law 633 = .ok (.aload_n 1, 1) := by decide +kernel
theorem dL_law_634 : decode cL_law 634 = .ok (.aload_n 0, 1) := by decide +kernel
theorem dL_law_635 : decode cL_law 635 = .ok (.iload_n 3, 1) := by decide +kernel
theorem dL_law_636 : decode cL_law 636 = .ok (.iconst 1, 1) := by decide +kernel
theorem dL_law_637 : decode cL_law 637 = .ok (.iadd, 1) := by decide +kernel
theorem dL_law_638 : decode cL_law 638 = .ok (.iaload, 1) := by decide +kernel
theorem dL_law_639 : decode cL_law 639 = .ok (.invokevirtual 85, 3) := by decide +kernel
theorem dL_law_642 : decode cL_law 642 = .ok (.aload_n 2, 1) := by decide +kernel
theorem dL_law_643 : decode cL_law 643 = .ok (.aload_n 0, 1) := by decide +kernel
theorem dL_law_644 : decode cL_law 644 = .ok (.iload_n 3, 1) := by decide +kernel
theorem dL_law_645 : decode cL_law 645 = .ok (.iconst 1, 1) := by decide +kernel
theorem dL_law_646 : decode cL_law 646 = .ok (.iadd, 1) := by decide +kernel
theorem dL_law_647 : decode cL_law 647 = .ok (.iaload, 1) := by decide +kernel
theorem dL_law_648 : decode cL_law 648 = .ok (.invokevirtual 88, 3) := by decide +kernel
theorem dL_law_651 : decode cL_law 651 = .ok (.if_icmp .eq 160, 3) := by decide +kernel
theorem dL_law_654 : decode cL_law 654 = .ok (.iconst 0, 1) := by decide +kernel
theorem dL_law_655 : decode cL_law 655 = .ok (.ireturn, 1) := by decide +kernel
theorem dL_law_656 : decode cL_law 656 = .ok (.aload_n 1, 1) := by decide +kernel
theorem dL_law_657 : decode cL_law 657 = .ok (.invokevirtual 89, 3) := by decide +kernel
theorem dL_law_660 : decode cL_law 660 = .ok (.aload_n 2, 1) := by decide +kernel
theorem dL_law_661 : decode cL_law 661 = .ok (.invokevirtual 92, 3) := by decide +kernel
theorem dL_law_664 : decode cL_law 664 = .ok (.if_icmp .eq 147, 3) := by decide +kernel
theorem dL_law_667 : decode cL_law 667 = .ok (.iconst 0, 1) := by decide +kernel
theorem dL_law_668 : decode cL_law 668 = .ok (.ireturn, 1) := by decide +kernel
theorem dL_law_669 : decode cL_law 669 = .ok (.aload_n 1, 1) := by decide +kernel
theorem dL_law_670 : decode cL_law 670 = .ok (.invokevirtual 93, 3) := by decide +kernel
theorem dL_law_673 : decode cL_law 673 = .ok (.aload_n 2, 1) := by decide +kernel
theorem dL_law_674 : decode cL_law 674 = .ok (.invokevirtual 96, 3) := by decide +kernel
theorem dL_law_677 : decode cL_law 677 = .ok (.if_icmp .eq 134, 3) := by decide +kernel
theorem dL_law_680 : decode cL_law 680 = .ok (.iconst 0, 1) := by decide +kernel
theorem dL_law_681 : decode cL_law 681 = .ok (.ireturn, 1) := by decide +kernel
theorem dL_law_682 : decode cL_law 682 = .ok (.aload_n 1, 1) := by decide +kernel
theorem dL_law_683 : decode cL_law 683 = .ok (.aload_n 0, 1) := by decide +kernel
theorem dL_law_684 : decode cL_law 684 = .ok (.iload_n 3, 1) := by decide +kernel
theorem dL_law_685 : decode cL_law 685 = .ok (.iconst 1, 1) := by decide +kernel
theorem dL_law_686 : decode cL_law 686 = .ok (.iadd, 1) := by decide +kernel
theorem dL_law_687 : decode cL_law 687 = .ok (.iaload, 1) := by decide +kernel
theorem dL_law_688 : decode cL_law 688 = .ok (.invokevirtual 97, 3) := by decide +kernel
theorem dL_law_691 : decode cL_law 691 = .ok (.aload_n 2, 1) := by decide +kernel
theorem dL_law_692 : decode cL_law 692 = .ok (.aload_n 0, 1) := by decide +kernel
theorem dL_law_693 : decode cL_law 693 = .ok (.iload_n 3, 1) := by decide +kernel
theorem dL_law_694 : decode cL_law 694 = .ok (.iconst 1, 1) := by decide +kernel
theorem dL_law_695 : decode cL_law 695 = .ok (.iadd, 1) := by decide +kernel
theorem dL_law_696 : decode cL_law 696 = .ok (.iaload, 1) := by decide +kernel
theorem dL_law_697 : decode cL_law 697 = .ok (.invokevirtual 100, 3) := by decide +kernel
theorem dL_law_700 : decode cL_law 700 = .ok (.if_icmp .eq 111, 3) := by decide +kernel
theorem dL_law_703 : decode cL_law 703 = .ok (.iconst 0, 1) := by decide +kernel
theorem dL_law_704 : decode cL_law 704 = .ok (.ireturn, 1) := by decide +kernel
theorem dL_law_705 : decode cL_law 705 = .ok (.aload_n 1, 1) := by decide +kernel
theorem dL_law_706 : decode cL_law 706 = .ok (.aload_n 0, 1) := by decide +kernel
theorem dL_law_707 : decode cL_law 707 = .ok (.iload_n 3, 1) := by decide +kernel
theorem dL_law_708 : decode cL_law 708 = .ok (.iconst 1, 1) := by decide +kernel
theorem dL_law_709 : decode cL_law 709 = .ok (.iadd, 1) := by decide +kernel
theorem dL_law_710 : decode cL_law 710 = .ok (.iaload, 1) := by decide +kernel
theorem dL_law_711 : decode cL_law 711 = .ok (.aload_n 0, 1) := by decide +kernel
theorem dL_law_712 : decode cL_law 712 = .ok (.iload_n 3, 1) := by decide +kernel
theorem dL_law_713 : decode cL_law 713 = .ok (.iconst 2, 1) := by decide +kernel
theorem dL_law_714 : decode cL_law 714 = .ok (.iadd, 1) := by decide +kernel
theorem dL_law_715 : decode cL_law 715 = .ok (.iaload, 1) := by decide +kernel
theorem dL_law_716 : decode cL_law 716 = .ok (.aload_n 0, 1) := by decide +kernel
theorem dL_law_717 : decode cL_law 717 = .ok (.iload_n 3, 1) := by decide +kernel
theorem dL_law_718 : decode cL_law 718 = .ok (.iconst 3, 1) := by decide +kernel
theorem dL_law_719 : decode cL_law 719 = .ok (.iadd, 1) := by decide +kernel
theorem dL_law_720 : decode cL_law 720 = .ok (.iaload, 1) := by decide +kernel
theorem dL_law_721 : decode cL_law 721 = .ok (.invokevirtual 101, 3) := by decide +kernel
theorem dL_law_724 : decode cL_law 724 = .ok (.aload_n 2, 1) := by decide +kernel
theorem dL_law_725 : decode cL_law 725 = .ok (.aload_n 0, 1) := by decide +kernel
theorem dL_law_726 : decode cL_law 726 = .ok (.iload_n 3, 1) := by decide +kernel
theorem dL_law_727 : decode cL_law 727 = .ok (.iconst 1, 1) := by decide +kernel
theorem dL_law_728 : decode cL_law 728 = .ok (.iadd, 1) := by decide +kernel
theorem dL_law_729 : decode cL_law 729 = .ok (.iaload, 1) := by decide +kernel
theorem dL_law_730 : decode cL_law 730 = .ok (.aload_n 0, 1) := by decide +kernel
theorem dL_law_731 : decode cL_law 731 = .ok (.iload_n 3, 1) := by decide +kernel
theorem dL_law_732 : decode cL_law 732 = .ok (.iconst 2, 1) := by decide +kernel
theorem dL_law_733 : decode cL_law 733 = .ok (.iadd, 1) := by decide +kernel
theorem dL_law_734 : decode cL_law 734 = .ok (.iaload, 1) := by decide +kernel
theorem dL_law_735 : decode cL_law 735 = .ok (.aload_n 0, 1) := by decide +kernel
theorem dL_law_736 : decode cL_law 736 = .ok (.iload_n 3, 1) := by decide +kernel
theorem dL_law_737 : decode cL_law 737 = .ok (.iconst 3, 1) := by decide +kernel
theorem dL_law_738 : decode cL_law 738 = .ok (.iadd, 1) := by decide +kernel
theorem dL_law_739 : decode cL_law 739 = .ok (.iaload, 1) := by decide +kernel
theorem dL_law_740 : decode cL_law 740 = .ok (.invokevirtual 104, 3) := by decide +kernel
theorem dL_law_743 : decode cL_law 743 = .ok (.if_icmp .eq 68, 3) := by decide +kernel
theorem dL_law_746 : decode cL_law 746 = .ok (.iconst 0, 1) := by decide +kernel
theorem dL_law_747 : decode cL_law 747 = .ok (.ireturn, 1) := by decide +kernel
theorem dL_law_748 : decode cL_law 748 = .ok (.aload_n 1, 1) := by decide +kernel
theorem dL_law_749 : decode cL_law 749 = .ok (.invokevirtual 105, 3) := by decide +kernel
theorem dL_law_752 : decode cL_law 752 = .ok (.aload_n 2, 1) := by decide +kernel
theorem dL_law_753 : decode cL_law 753 = .ok (.invokevirtual 108, 3) := by decide +kernel
theorem dL_law_756 : decode cL_law 756 = .ok (.if_icmp .eq 55, 3) := by decide +kernel
theorem dL_law_759 : decode cL_law 759 = .ok (.iconst 0, 1) := by decide +kernel
theorem dL_law_760 : decode cL_law 760 = .ok (.ireturn, 1) := by decide +kernel
theorem dL_law_761 : decode cL_law 761 = .ok (.aload_n 1, 1) := by decide +kernel
theorem dL_law_762 : decode cL_law 762 = .ok (.invokevirtual 109, 3) := by decide +kernel
theorem dL_law_765 : decode cL_law 765 = .ok (.aload_n 2, 1) := by decide +kernel
theorem dL_law_766 : decode cL_law 766 = .ok (.invokevirtual 112, 3) := by decide +kernel
theorem dL_law_769 : decode cL_law 769 = .ok (.if_icmp .eq 42, 3) := by decide +kernel
theorem dL_law_772 : decode cL_law 772 = .ok (.iconst 0, 1) := by decide +kernel
theorem dL_law_773 : decode cL_law 773 = .ok (.ireturn, 1) := by decide +kernel
theorem dL_law_774 : decode cL_law 774 = .ok (.aload_n 1, 1) := by decide +kernel
theorem dL_law_775 : decode cL_law 775 = .ok (.aload_n 0, 1) := by decide +kernel
theorem dL_law_776 : decode cL_law 776 = .ok (.iload_n 3, 1) := by decide +kernel
theorem dL_law_777 : decode cL_law 777 = .ok (.iconst 1, 1) := by decide +kernel
theorem dL_law_778 : decode cL_law 778 = .ok (.iadd, 1) := by decide +kernel
theorem dL_law_779 : decode cL_law 779 = .ok (.iaload, 1) := by decide +kernel
theorem dL_law_780 : decode cL_law 780 = .ok (.invokevirtual 113, 3) := by decide +kernel
theorem dL_law_783 : decode cL_law 783 = .ok (.aload_n 2, 1) := by decide +kernel
theorem dL_law_784 : decode cL_law 784 = .ok (.aload_n 0, 1) := by decide +kernel
theorem dL_law_785 : decode cL_law 785 = .ok (.iload_n 3, 1) := by decide +kernel
theorem dL_law_786 : decode cL_law 786 = .ok (.iconst 1, 1) := by decide +kernel
theorem dL_law_787 : decode cL_law 787 = .ok (.iadd, 1) := by decide +kernel
theorem dL_law_788 : decode cL_law 788 = .ok (.iaload, 1) := by decide +kernel
theorem dL_law_789 : decode cL_law 789 = .ok (.invokevirtual 116, 3) := by decide +kernel
theorem dL_law_792 : decode cL_law 792 = .ok (.if_icmp .eq 19, 3) := by decide +kernel
theorem dL_law_795 : decode cL_law 795 = .ok (.iconst 0, 1) := by decide +kernel
theorem dL_law_796 : decode cL_law 796 = .ok (.ireturn, 1) := by decide +kernel
theorem dL_law_797 : decode cL_law 797 = .ok (.aload_n 1, 1) := by decide +kernel
theorem dL_law_798 : decode cL_law 798 = .ok (.invokevirtual 117, 3) := by decide +kernel
theorem dL_law_801 : decode cL_law 801 = .ok (.aload_n 2, 1) := by decide +kernel
theorem dL_law_802 : decode cL_law 802 = .ok (.invokevirtual 121, 3) := by decide +kernel
theorem dL_law_805 : decode cL_law 805 = .ok (.lcmp, 1) := by decide +kernel
theorem dL_law_806 : decode cL_law 806 = .ok (.ifCond .eq 5, 3) := by decide +kernel
theorem dL_law_809 : decode cL_law 809 = .ok (.iconst 0, 1) := by decide +kernel
theorem dL_law_810 : decode cL_law 810 = .ok (.ireturn, 1) := by decide +kernel
theorem dL_law_811 : decode cL_law 811 = .ok (.iinc 3 4, 3) := by decide +kernel
theorem dL_law_814 : decode cL_law 814 = .ok (.goto (-796), 3) := by decide +kernel
theorem dL_law_817 : decode cL_law 817 = .ok (.iconst 1, 1) := by decide +kernel
theorem dL_law_818 : decode cL_law 818 = .ok (.ireturn, 1) := by decide +kernel
end
section
/-- the words that every method here is proved over: all of the tables that go along a call -/
def tbG : List Cond := lw_tbl.filter goodWord
theorem tg_of {w : Cond} (h : w ∈ lw_tbl) (hg : goodWord w = true) : w ∈ tbG := List.mem_filter.mpr ⟨h, hg⟩
theorem tg_at {w : Cond} (i : Nat) (h : tables_1[i]? = some w) (hg : goodWord w = true) : w ∈ tbG := tg_of (List.mem_append_right _ (List.mem_of_getElem? h)) hg
theorem tg_sel {w : Cond} (i : Nat) (h : (k2_sels lw_privs)[i]? = some w) (hg : goodWord w = true) : w ∈ tbG := tg_of (List.mem_append_left _ (List.mem_of_getElem? h)) hg
theorem tg_all {ws : List Cond} (h : ws.all (fun w => decide (w ∈ lw_tbl) && goodWord w) = true) : ∀ w ∈ ws, w ∈ tbG := fun w hw => by
  have h1 := List.all_eq_true.mp h w hw
  simp only [Bool.and_eq_true, decide_eq_true_eq] at h1
  exact tg_of h1.1 h1.2
theorem tg_in {w : Cond} (h : w ∈ tbG) : w ∈ lw_tbl := (List.mem_filter.mp h).1
theorem li_RL : Cond.initialized RL ∈ tbG := tg_at 0 (by decide +kernel) rfl
theorem li_RX6 : Cond.initialized RX6 ∈ tbG := tg_at 1 (by decide +kernel) rfl
theorem li_RX4 : Cond.initialized RX4 ∈ tbG := tg_at 2 (by decide +kernel) rfl
theorem li_RX3 : Cond.initialized RX3 ∈ tbG := tg_at 3 (by decide +kernel) rfl
theorem li_RX0 : Cond.initialized RX0 ∈ tbG := tg_at 4 (by decide +kernel) rfl
theorem li_RX1 : Cond.initialized RX1 ∈ tbG := tg_at 5 (by decide +kernel) rfl
theorem li_RX7 : Cond.initialized RX7 ∈ tbG := tg_at 6 (by decide +kernel) rfl
theorem li_RX5 : Cond.initialized RX5 ∈ tbG := tg_at 7 (by decide +kernel) rfl
theorem li_RJ13 : Cond.initialized RJ13 ∈ tbG := tg_at 8 (by decide +kernel) rfl
theorem li_RX2 : Cond.initialized RX2 ∈ tbG := tg_at 9 (by decide +kernel) rfl
theorem li_RJ6 : Cond.initialized RJ6 ∈ tbG := tg_at 10 (by decide +kernel) rfl
theorem li_RJ9 : Cond.initialized RJ9 ∈ tbG := tg_at 11 (by decide +kernel) rfl
theorem li_RJ10 : Cond.initialized RJ10 ∈ tbG := tg_at 12 (by decide +kernel) rfl
theorem lq_RL_7 : Cond.classLink RL 7 RX6 ∈ tbG := tg_at 13 (by decide +kernel) rfl
theorem ln_RX6 : Cond.instantiable RX6 9 ∈ tbG := tg_at 14 (by decide +kernel) rfl
theorem lm_RL_9 : Cond.methodLink RL 9 yX6_init ∈ tbG := tg_at 15 (by decide +kernel) rfl
theorem li_yX6_init : Cond.instanceMethod yX6_init ∈ tbG := tg_at 16 (by decide +kernel) rfl
theorem lk_yX6_init : Cond.code yX6_init cX6_init 1 none ∈ tbG := tg_at 17 (by decide +kernel) rfl
theorem lm_RX6_1 : Cond.methodLink RX6 1 objectInit ∈ tbG := tg_at 18 (by decide +kernel) rfl
theorem li_objectInit : Cond.instanceMethod objectInit ∈ tbG := tg_at 19 (by decide +kernel) rfl
theorem lk_objectInit : Cond.code objectInit ⟨#[0xb1]⟩ 1 none ∈ tbG := tg_at 20 (by decide +kernel) rfl
theorem lq_RX6_7 : Cond.classLink RX6 7 RX4 ∈ tbG := tg_at 21 (by decide +kernel) rfl
theorem ln_RX4 : Cond.instantiable RX4 2 ∈ tbG := tg_at 22 (by decide +kernel) rfl
theorem li_yX4_init : Cond.instanceMethod yX4_init ∈ tbG := tg_at 24 (by decide +kernel) rfl
theorem lk_yX4_init : Cond.code yX4_init cX4_init 1 none ∈ tbG := tg_at 25 (by decide +kernel) rfl
theorem lm_RX4_3 : Cond.methodLink RX4 3 objectInit ∈ tbG := tg_at 26 (by decide +kernel) rfl
theorem lf_RX4_11 : Cond.fieldLink RX4 11 "BurntLetters$Page" "codes" "[I" ∈ tbG := tg_at 27 (by decide +kernel) rfl
theorem lf_RX4_15 : Cond.fieldLink RX4 15 "BurntLetters$Page" "size" "I" ∈ tbG := tg_at 28 (by decide +kernel) rfl
theorem la_int : Cond.arrayClass .int ∈ tbG := tg_at 35 (by decide +kernel) rfl
theorem lq_RX6_16 : Cond.classLink RX6 16 RX3 ∈ tbG := tg_at 36 (by decide +kernel) rfl
theorem ln_RX3 : Cond.instantiable RX3 2 ∈ tbG := tg_at 37 (by decide +kernel) rfl
theorem li_yX3_init : Cond.instanceMethod yX3_init ∈ tbG := tg_at 39 (by decide +kernel) rfl
theorem lk_yX3_init : Cond.code yX3_init cX3_init 1 none ∈ tbG := tg_at 40 (by decide +kernel) rfl
theorem lm_RX3_3 : Cond.methodLink RX3 3 objectInit ∈ tbG := tg_at 41 (by decide +kernel) rfl
theorem lf_RX3_9 : Cond.fieldLink RX3 9 "BurntLetters$Law" "tenths" "[I" ∈ tbG := tg_at 42 (by decide +kernel) rfl
theorem lf_RX3_21 : Cond.fieldLink RX3 21 "BurntLetters$Law" "room" "I" ∈ tbG := tg_at 43 (by decide +kernel) rfl
theorem lq_RX6_23 : Cond.classLink RX6 23 RX0 ∈ tbG := tg_at 51 (by decide +kernel) rfl
theorem ln_RX0 : Cond.instantiable RX0 8 ∈ tbG := tg_at 52 (by decide +kernel) rfl
theorem lm_RX6_25 : Cond.methodLink RX6 25 yX0_init ∈ tbG := tg_at 53 (by decide +kernel) rfl
theorem li_yX0_init : Cond.instanceMethod yX0_init ∈ tbG := tg_at 54 (by decide +kernel) rfl
theorem lk_yX0_init : Cond.code yX0_init cX0_init 2 none ∈ tbG := tg_at 55 (by decide +kernel) rfl
theorem lm_RX0_3 : Cond.methodLink RX0 3 objectInit ∈ tbG := tg_at 56 (by decide +kernel) rfl
theorem lf_RX0_21 : Cond.fieldLink RX0 21 "BurntLetters$Archive" "law" "LBurntLetters$Law;" ∈ tbG := tg_at 57 (by decide +kernel) rfl
theorem lf_RX0_9 : Cond.fieldLink RX0 9 "BurntLetters$Archive" "kinds" "[I" ∈ tbG := tg_at 58 (by decide +kernel) rfl
theorem lf_RX0_15 : Cond.fieldLink RX0 15 "BurntLetters$Archive" "targets" "[I" ∈ tbG := tg_at 59 (by decide +kernel) rfl
theorem lf_RX0_18 : Cond.fieldLink RX0 18 "BurntLetters$Archive" "told" "[I" ∈ tbG := tg_at 60 (by decide +kernel) rfl
theorem lf_RX0_25 : Cond.fieldLink RX0 25 "BurntLetters$Archive" "files" "I" ∈ tbG := tg_at 61 (by decide +kernel) rfl
theorem lf_RX0_29 : Cond.fieldLink RX0 29 "BurntLetters$Archive" "shelf" "J" ∈ tbG := tg_at 63 (by decide +kernel) rfl
theorem lf_RX0_33 : Cond.fieldLink RX0 33 "BurntLetters$Archive" "years" "I" ∈ tbG := tg_at 66 (by decide +kernel) rfl
theorem lf_RX0_36 : Cond.fieldLink RX0 36 "BurntLetters$Archive" "ashYears" "I" ∈ tbG := tg_at 68 (by decide +kernel) rfl
theorem lq_RX6_35 : Cond.classLink RX6 35 RX1 ∈ tbG := tg_at 88 (by decide +kernel) rfl
theorem ln_RX1 : Cond.instantiable RX1 2 ∈ tbG := tg_at 89 (by decide +kernel) rfl
theorem lm_RX6_37 : Cond.methodLink RX6 37 yX1_init ∈ tbG := tg_at 90 (by decide +kernel) rfl
theorem li_yX1_init : Cond.instanceMethod yX1_init ∈ tbG := tg_at 91 (by decide +kernel) rfl
theorem lk_yX1_init : Cond.code yX1_init cX1_init 3 none ∈ tbG := tg_at 92 (by decide +kernel) rfl
theorem lm_RX1_3 : Cond.methodLink RX1 3 objectInit ∈ tbG := tg_at 93 (by decide +kernel) rfl
theorem lf_RX1_9 : Cond.fieldLink RX1 9 "BurntLetters$Foresight" "law" "LBurntLetters$Law;" ∈ tbG := tg_at 94 (by decide +kernel) rfl
theorem lf_RX1_15 : Cond.fieldLink RX1 15 "BurntLetters$Foresight" "archive" "LBurntLetters$Archive;" ∈ tbG := tg_at 95 (by decide +kernel) rfl
theorem lf_RX6_10 : Cond.fieldLink RX6 10 "BurntLetters" "page" "LBurntLetters$Page;" ∈ tbG := tg_at 101 (by decide +kernel) rfl
theorem lf_RX6_19 : Cond.fieldLink RX6 19 "BurntLetters" "rules" "LBurntLetters$Law;" ∈ tbG := tg_at 102 (by decide +kernel) rfl
theorem lf_RX6_28 : Cond.fieldLink RX6 28 "BurntLetters" "archive" "LBurntLetters$Archive;" ∈ tbG := tg_at 103 (by decide +kernel) rfl
theorem lf_RX6_32 : Cond.fieldLink RX6 32 "BurntLetters" "kept" "LBurntLetters$Archive;" ∈ tbG := tg_at 104 (by decide +kernel) rfl
theorem lf_RX6_40 : Cond.fieldLink RX6 40 "BurntLetters" "foresight" "LBurntLetters$Foresight;" ∈ tbG := tg_at 105 (by decide +kernel) rfl
theorem lf_RX6_68 : Cond.fieldLink RX6 68 "BurntLetters" "imageKept" "Z" ∈ tbG := tg_at 106 (by decide +kernel) rfl
theorem lf_RX6_72 : Cond.fieldLink RX6 72 "BurntLetters" "lawsRead" "I" ∈ tbG := tg_at 107 (by decide +kernel) rfl
theorem lf_RX6_182 : Cond.fieldLink RX6 182 "BurntLetters" "sureDone" "I" ∈ tbG := tg_at 108 (by decide +kernel) rfl
theorem lf_RX6_191 : Cond.fieldLink RX6 191 "BurntLetters" "movingDone" "I" ∈ tbG := tg_at 109 (by decide +kernel) rfl
theorem lm_RL_13 : Cond.methodLink RL 13 yX6_letter ∈ tbG := tg_at 129 (by decide +kernel) rfl
theorem li_yX6_letter : Cond.instanceMethod yX6_letter ∈ tbG := tg_at 130 (by decide +kernel) rfl
theorem ll_yX6_letter : Cond.selects RX6 yX6_letter yX6_letter ∈ tbG := tg_at 131 (by decide +kernel) rfl
theorem lk_yX6_letter : Cond.code yX6_letter cX6_letter 2 (some .int) ∈ tbG := tg_at 132 (by decide +kernel) rfl
theorem lm_RX6_44 : Cond.methodLink RX6 44 yX4_isFull ∈ tbG := tg_at 133 (by decide +kernel) rfl
theorem li_yX4_isFull : Cond.instanceMethod yX4_isFull ∈ tbG := tg_at 134 (by decide +kernel) rfl
theorem ll_yX4_isFull : Cond.selects RX4 yX4_isFull yX4_isFull ∈ tbG := tg_at 135 (by decide +kernel) rfl
theorem lk_yX4_isFull : Cond.code yX4_isFull cX4_isFull 1 (some .boolean) ∈ tbG := tg_at 136 (by decide +kernel) rfl
theorem lm_RX6_48 : Cond.methodLink RX6 48 yX4_append ∈ tbG := tg_at 137 (by decide +kernel) rfl
theorem li_yX4_append : Cond.instanceMethod yX4_append ∈ tbG := tg_at 138 (by decide +kernel) rfl
theorem ll_yX4_append : Cond.selects RX4 yX4_append yX4_append ∈ tbG := tg_at 139 (by decide +kernel) rfl
theorem lk_yX4_append : Cond.code yX4_append cX4_append 2 (some .int) ∈ tbG := tg_at 140 (by decide +kernel) rfl
theorem lm_RL_18 : Cond.methodLink RL 18 yX6_blank ∈ tbG := tg_at 141 (by decide +kernel) rfl
theorem li_yX6_blank : Cond.instanceMethod yX6_blank ∈ tbG := tg_at 142 (by decide +kernel) rfl
theorem ll_yX6_blank : Cond.selects RX6 yX6_blank yX6_blank ∈ tbG := tg_at 143 (by decide +kernel) rfl
theorem lk_yX6_blank : Cond.code yX6_blank cX6_blank 1 (some .int) ∈ tbG := tg_at 144 (by decide +kernel) rfl
theorem lm_RX6_52 : Cond.methodLink RX6 52 yX4_clear ∈ tbG := tg_at 145 (by decide +kernel) rfl
theorem li_yX4_clear : Cond.instanceMethod yX4_clear ∈ tbG := tg_at 146 (by decide +kernel) rfl
theorem ll_yX4_clear : Cond.selects RX4 yX4_clear yX4_clear ∈ tbG := tg_at 147 (by decide +kernel) rfl
theorem lk_yX4_clear : Cond.code yX4_clear cX4_clear 2 (some .int) ∈ tbG := tg_at 148 (by decide +kernel) rfl
theorem lm_RL_23 : Cond.methodLink RL 23 yX6_fault ∈ tbG := tg_at 149 (by decide +kernel) rfl
theorem li_yX6_fault : Cond.instanceMethod yX6_fault ∈ tbG := tg_at 150 (by decide +kernel) rfl
theorem ll_yX6_fault : Cond.selects RX6 yX6_fault yX6_fault ∈ tbG := tg_at 151 (by decide +kernel) rfl
theorem lk_yX6_fault : Cond.code yX6_fault cX6_fault 1 (some .int) ∈ tbG := tg_at 152 (by decide +kernel) rfl
theorem lm_RX6_56 : Cond.methodLink RX6 56 yX4_firstFault ∈ tbG := tg_at 153 (by decide +kernel) rfl
theorem li_yX4_firstFault : Cond.instanceMethod yX4_firstFault ∈ tbG := tg_at 154 (by decide +kernel) rfl
theorem ll_yX4_firstFault : Cond.selects RX4 yX4_firstFault yX4_firstFault ∈ tbG := tg_at 155 (by decide +kernel) rfl
theorem lk_yX4_firstFault : Cond.code yX4_firstFault cX4_firstFault 3 (some .int) ∈ tbG := tg_at 156 (by decide +kernel) rfl
theorem lm_RX4_27 : Cond.methodLink RX4 27 yX4_digitAt ∈ tbG := tg_at 157 (by decide +kernel) rfl
theorem li_yX4_digitAt : Cond.instanceMethod yX4_digitAt ∈ tbG := tg_at 158 (by decide +kernel) rfl
theorem ll_yX4_digitAt : Cond.selects RX4 yX4_digitAt yX4_digitAt ∈ tbG := tg_at 159 (by decide +kernel) rfl
theorem lk_yX4_digitAt : Cond.code yX4_digitAt cX4_digitAt 2 (some .int) ∈ tbG := tg_at 160 (by decide +kernel) rfl
theorem lm_RX4_19 : Cond.methodLink RX4 19 yX4_codeAt ∈ tbG := tg_at 161 (by decide +kernel) rfl
theorem li_yX4_codeAt : Cond.instanceMethod yX4_codeAt ∈ tbG := tg_at 162 (by decide +kernel) rfl
theorem ll_yX4_codeAt : Cond.selects RX4 yX4_codeAt yX4_codeAt ∈ tbG := tg_at 163 (by decide +kernel) rfl
theorem lk_yX4_codeAt : Cond.code yX4_codeAt cX4_codeAt 2 (some .int) ∈ tbG := tg_at 164 (by decide +kernel) rfl
theorem lm_RX4_30 : Cond.methodLink RX4 30 yX4_mayStand ∈ tbG := tg_at 165 (by decide +kernel) rfl
theorem li_yX4_mayStand : Cond.instanceMethod yX4_mayStand ∈ tbG := tg_at 167 (by decide +kernel) rfl
theorem lk_yX4_mayStand : Cond.code yX4_mayStand cX4_mayStand 3 (some .boolean) ∈ tbG := tg_at 168 (by decide +kernel) rfl
theorem ls_yX6_within : Cond.static yX6_within ∈ tbG := tg_at 170 (by decide +kernel) rfl
theorem lk_yX6_within : Cond.code yX6_within cX6_within 3 (some .boolean) ∈ tbG := tg_at 171 (by decide +kernel) rfl
theorem lm_RL_27 : Cond.methodLink RL 27 yX6_law ∈ tbG := tg_at 172 (by decide +kernel) rfl
theorem li_yX6_law : Cond.instanceMethod yX6_law ∈ tbG := tg_at 173 (by decide +kernel) rfl
theorem ll_yX6_law : Cond.selects RX6 yX6_law yX6_law ∈ tbG := tg_at 174 (by decide +kernel) rfl
theorem lk_yX6_law : Cond.code yX6_law cX6_law 1 (some .int) ∈ tbG := tg_at 175 (by decide +kernel) rfl
theorem lm_RX6_59 : Cond.methodLink RX6 59 yX4_isLaw ∈ tbG := tg_at 176 (by decide +kernel) rfl
theorem li_yX4_isLaw : Cond.instanceMethod yX4_isLaw ∈ tbG := tg_at 177 (by decide +kernel) rfl
theorem ll_yX4_isLaw : Cond.selects RX4 yX4_isLaw yX4_isLaw ∈ tbG := tg_at 178 (by decide +kernel) rfl
theorem lk_yX4_isLaw : Cond.code yX4_isLaw cX4_isLaw 1 (some .boolean) ∈ tbG := tg_at 179 (by decide +kernel) rfl
theorem lm_RX4_23 : Cond.methodLink RX4 23 yX4_firstFault ∈ tbG := tg_at 180 (by decide +kernel) rfl
theorem lm_RX6_62 : Cond.methodLink RX6 62 yX3_read ∈ tbG := tg_at 181 (by decide +kernel) rfl
theorem li_yX3_read : Cond.instanceMethod yX3_read ∈ tbG := tg_at 182 (by decide +kernel) rfl
theorem ll_yX3_read : Cond.selects RX3 yX3_read yX3_read ∈ tbG := tg_at 183 (by decide +kernel) rfl
theorem lk_yX3_read : Cond.code yX3_read cX3_read 3 none ∈ tbG := tg_at 184 (by decide +kernel) rfl
theorem lm_RX3_15 : Cond.methodLink RX3 15 yX4_digitAt ∈ tbG := tg_at 185 (by decide +kernel) rfl
theorem lm_RX6_66 : Cond.methodLink RX6 66 yX0_clear ∈ tbG := tg_at 186 (by decide +kernel) rfl
theorem li_yX0_clear : Cond.instanceMethod yX0_clear ∈ tbG := tg_at 187 (by decide +kernel) rfl
theorem ll_yX0_clear : Cond.selects RX0 yX0_clear yX0_clear ∈ tbG := tg_at 188 (by decide +kernel) rfl
theorem lk_yX0_clear : Cond.code yX0_clear cX0_clear 1 none ∈ tbG := tg_at 189 (by decide +kernel) rfl
theorem lm_RL_31 : Cond.methodLink RL 31 yX6_under ∈ tbG := tg_at 190 (by decide +kernel) rfl
theorem li_yX6_under : Cond.instanceMethod yX6_under ∈ tbG := tg_at 191 (by decide +kernel) rfl
theorem ll_yX6_under : Cond.selects RX6 yX6_under yX6_under ∈ tbG := tg_at 192 (by decide +kernel) rfl
theorem lk_yX6_under : Cond.code yX6_under cX6_under 3 (some .int) ∈ tbG := tg_at 193 (by decide +kernel) rfl
theorem lm_RX6_79 : Cond.methodLink RX6 79 yX6_isLetter ∈ tbG := tg_at 194 (by decide +kernel) rfl
theorem ls_yX6_isLetter : Cond.static yX6_isLetter ∈ tbG := tg_at 195 (by decide +kernel) rfl
theorem lk_yX6_isLetter : Cond.code yX6_isLetter cX6_isLetter 1 (some .boolean) ∈ tbG := tg_at 196 (by decide +kernel) rfl
theorem lm_RX6_83 : Cond.methodLink RX6 83 yX6_within ∈ tbG := tg_at 197 (by decide +kernel) rfl
theorem lm_RX6_87 : Cond.methodLink RX6 87 yX3_tenthsOf ∈ tbG := tg_at 198 (by decide +kernel) rfl
theorem li_yX3_tenthsOf : Cond.instanceMethod yX3_tenthsOf ∈ tbG := tg_at 199 (by decide +kernel) rfl
theorem ll_yX3_tenthsOf : Cond.selects RX3 yX3_tenthsOf yX3_tenthsOf ∈ tbG := tg_at 200 (by decide +kernel) rfl
theorem lk_yX3_tenthsOf : Cond.code yX3_tenthsOf cX3_tenthsOf 2 (some .int) ∈ tbG := tg_at 201 (by decide +kernel) rfl
theorem lm_RX6_94 : Cond.methodLink RX6 94 yX5_fullness ∈ tbG := tg_at 202 (by decide +kernel) rfl
theorem ls_yX5_fullness : Cond.static yX5_fullness ∈ tbG := tg_at 203 (by decide +kernel) rfl
theorem lk_yX5_fullness : Cond.code yX5_fullness cX5_fullness 3 (some .int) ∈ tbG := tg_at 204 (by decide +kernel) rfl
theorem lc_RX5_19 : Cond.constantLong RX5 19 (4311810305) ∈ tbG := tg_at 205 (by decide +kernel) rfl
theorem lm_RX5_21 : Cond.methodLink RX5 21 yJ13_bitCount_95d88 ∈ tbG := tg_at 206 (by decide +kernel) rfl
theorem ls_yJ13_bitCount_95d88 : Cond.static yJ13_bitCount_95d88 ∈ tbG := tg_at 207 (by decide +kernel) rfl
theorem lk_yJ13_bitCount_95d88 : Cond.code yJ13_bitCount_95d88 cJ13_bitCount_95d88 2 (some .int) ∈ tbG := tg_at 208 (by decide +kernel) rfl
theorem lc_RJ13_314 : Cond.constantLong RJ13 314 (6148914691236517205) ∈ tbG := tg_at 209 (by decide +kernel) rfl
theorem lc_RJ13_316 : Cond.constantLong RJ13 316 (3689348814741910323) ∈ tbG := tg_at 210 (by decide +kernel) rfl
theorem lc_RJ13_318 : Cond.constantLong RJ13 318 (1085102592571150095) ∈ tbG := tg_at 211 (by decide +kernel) rfl
theorem lm_RL_36 : Cond.methodLink RL 36 yX6_file ∈ tbG := tg_at 212 (by decide +kernel) rfl
theorem li_yX6_file : Cond.instanceMethod yX6_file ∈ tbG := tg_at 213 (by decide +kernel) rfl
theorem ll_yX6_file : Cond.selects RX6 yX6_file yX6_file ∈ tbG := tg_at 214 (by decide +kernel) rfl
theorem lk_yX6_file : Cond.code yX6_file cX6_file 3 (some .int) ∈ tbG := tg_at 215 (by decide +kernel) rfl
theorem lm_RX6_100 : Cond.methodLink RX6 100 yX2_isKind ∈ tbG := tg_at 216 (by decide +kernel) rfl
theorem ls_yX2_isKind : Cond.static yX2_isKind ∈ tbG := tg_at 217 (by decide +kernel) rfl
theorem lk_yX2_isKind : Cond.code yX2_isKind cX2_isKind 1 (some .boolean) ∈ tbG := tg_at 218 (by decide +kernel) rfl
theorem lm_RX6_105 : Cond.methodLink RX6 105 yX3_stands ∈ tbG := tg_at 220 (by decide +kernel) rfl
theorem li_yX3_stands : Cond.instanceMethod yX3_stands ∈ tbG := tg_at 221 (by decide +kernel) rfl
theorem ll_yX3_stands : Cond.selects RX3 yX3_stands yX3_stands ∈ tbG := tg_at 222 (by decide +kernel) rfl
theorem lk_yX3_stands : Cond.code yX3_stands cX3_stands 1 (some .boolean) ∈ tbG := tg_at 223 (by decide +kernel) rfl
theorem lm_RX6_108 : Cond.methodLink RX6 108 yX0_hasRoom ∈ tbG := tg_at 224 (by decide +kernel) rfl
theorem li_yX0_hasRoom : Cond.instanceMethod yX0_hasRoom ∈ tbG := tg_at 225 (by decide +kernel) rfl
theorem ll_yX0_hasRoom : Cond.selects RX0 yX0_hasRoom yX0_hasRoom ∈ tbG := tg_at 226 (by decide +kernel) rfl
theorem lk_yX0_hasRoom : Cond.code yX0_hasRoom cX0_hasRoom 4 (some .boolean) ∈ tbG := tg_at 227 (by decide +kernel) rfl
theorem lm_RX0_61 : Cond.methodLink RX0 61 yX5_fullness ∈ tbG := tg_at 228 (by decide +kernel) rfl
theorem lm_RX6_115 : Cond.methodLink RX6 115 yX0_add ∈ tbG := tg_at 229 (by decide +kernel) rfl
theorem li_yX0_add : Cond.instanceMethod yX0_add ∈ tbG := tg_at 230 (by decide +kernel) rfl
theorem ll_yX0_add : Cond.selects RX0 yX0_add yX0_add ∈ tbG := tg_at 231 (by decide +kernel) rfl
theorem lk_yX0_add : Cond.code yX0_add cX0_add 4 (some .int) ∈ tbG := tg_at 232 (by decide +kernel) rfl
theorem lm_RX0_51 : Cond.methodLink RX0 51 yX5_turned ∈ tbG := tg_at 233 (by decide +kernel) rfl
theorem ls_yX5_turned : Cond.static yX5_turned ∈ tbG := tg_at 234 (by decide +kernel) rfl
theorem lk_yX5_turned : Cond.code yX5_turned cX5_turned 4 (some .long) ∈ tbG := tg_at 235 (by decide +kernel) rfl
theorem lm_RL_40 : Cond.methodLink RL 40 yX6_about ∈ tbG := tg_at 236 (by decide +kernel) rfl
theorem li_yX6_about : Cond.instanceMethod yX6_about ∈ tbG := tg_at 237 (by decide +kernel) rfl
theorem ll_yX6_about : Cond.selects RX6 yX6_about yX6_about ∈ tbG := tg_at 238 (by decide +kernel) rfl
theorem lk_yX6_about : Cond.code yX6_about cX6_about 3 (some .int) ∈ tbG := tg_at 239 (by decide +kernel) rfl
theorem lm_RX6_119 : Cond.methodLink RX6 119 yX0_has ∈ tbG := tg_at 240 (by decide +kernel) rfl
theorem li_yX0_has : Cond.instanceMethod yX0_has ∈ tbG := tg_at 241 (by decide +kernel) rfl
theorem ll_yX0_has : Cond.selects RX0 yX0_has yX0_has ∈ tbG := tg_at 242 (by decide +kernel) rfl
theorem lk_yX0_has : Cond.code yX0_has cX0_has 2 (some .boolean) ∈ tbG := tg_at 243 (by decide +kernel) rfl
theorem lm_RX6_122 : Cond.methodLink RX6 122 yX0_kindOf ∈ tbG := tg_at 245 (by decide +kernel) rfl
theorem li_yX0_kindOf : Cond.instanceMethod yX0_kindOf ∈ tbG := tg_at 246 (by decide +kernel) rfl
theorem ll_yX0_kindOf : Cond.selects RX0 yX0_kindOf yX0_kindOf ∈ tbG := tg_at 247 (by decide +kernel) rfl
theorem lk_yX0_kindOf : Cond.code yX0_kindOf cX0_kindOf 2 (some .int) ∈ tbG := tg_at 248 (by decide +kernel) rfl
theorem lm_RX6_125 : Cond.methodLink RX6 125 yX5_leavesOf ∈ tbG := tg_at 249 (by decide +kernel) rfl
theorem ls_yX5_leavesOf : Cond.static yX5_leavesOf ∈ tbG := tg_at 250 (by decide +kernel) rfl
theorem lk_yX5_leavesOf : Cond.code yX5_leavesOf cX5_leavesOf 3 (some .int) ∈ tbG := tg_at 251 (by decide +kernel) rfl
theorem lm_RX6_128 : Cond.methodLink RX6 128 yX0_targetOf ∈ tbG := tg_at 252 (by decide +kernel) rfl
theorem li_yX0_targetOf : Cond.instanceMethod yX0_targetOf ∈ tbG := tg_at 253 (by decide +kernel) rfl
theorem ll_yX0_targetOf : Cond.selects RX0 yX0_targetOf yX0_targetOf ∈ tbG := tg_at 254 (by decide +kernel) rfl
theorem lk_yX0_targetOf : Cond.code yX0_targetOf cX0_targetOf 2 (some .int) ∈ tbG := tg_at 255 (by decide +kernel) rfl
theorem lm_RX6_131 : Cond.methodLink RX6 131 yX5_keptOf ∈ tbG := tg_at 256 (by decide +kernel) rfl
theorem ls_yX5_keptOf : Cond.static yX5_keptOf ∈ tbG := tg_at 257 (by decide +kernel) rfl
theorem lk_yX5_keptOf : Cond.code yX5_keptOf cX5_keptOf 3 (some .int) ∈ tbG := tg_at 258 (by decide +kernel) rfl
theorem lm_RX6_134 : Cond.methodLink RX6 134 yX5_lives ∈ tbG := tg_at 259 (by decide +kernel) rfl
theorem ls_yX5_lives : Cond.static yX5_lives ∈ tbG := tg_at 260 (by decide +kernel) rfl
theorem lk_yX5_lives : Cond.code yX5_lives cX5_lives 3 (some .boolean) ∈ tbG := tg_at 261 (by decide +kernel) rfl
theorem lm_RX5_11 : Cond.methodLink RX5 11 yX5_leavesOf ∈ tbG := tg_at 262 (by decide +kernel) rfl
theorem lm_RX6_137 : Cond.methodLink RX6 137 yX2_namesOf ∈ tbG := tg_at 263 (by decide +kernel) rfl
theorem ls_yX2_namesOf : Cond.static yX2_namesOf ∈ tbG := tg_at 264 (by decide +kernel) rfl
theorem lk_yX2_namesOf : Cond.code yX2_namesOf cX2_namesOf 1 (some .int) ∈ tbG := tg_at 265 (by decide +kernel) rfl
theorem lm_RX2_15 : Cond.methodLink RX2 15 yX2_isSuch ∈ tbG := tg_at 266 (by decide +kernel) rfl
theorem ls_yX2_isSuch : Cond.static yX2_isSuch ∈ tbG := tg_at 267 (by decide +kernel) rfl
theorem lk_yX2_isSuch : Cond.code yX2_isSuch cX2_isSuch 2 (some .boolean) ∈ tbG := tg_at 268 (by decide +kernel) rfl
theorem lm_RL_44 : Cond.methodLink RL 44 yX6_as ∈ tbG := tg_at 269 (by decide +kernel) rfl
theorem li_yX6_as : Cond.instanceMethod yX6_as ∈ tbG := tg_at 270 (by decide +kernel) rfl
theorem ll_yX6_as : Cond.selects RX6 yX6_as yX6_as ∈ tbG := tg_at 271 (by decide +kernel) rfl
theorem lk_yX6_as : Cond.code yX6_as cX6_as 3 (some .int) ∈ tbG := tg_at 272 (by decide +kernel) rfl
theorem lm_RX6_140 : Cond.methodLink RX6 140 yX2_isSuch ∈ tbG := tg_at 273 (by decide +kernel) rfl
theorem lm_RL_48 : Cond.methodLink RL 48 yX6_copy ∈ tbG := tg_at 274 (by decide +kernel) rfl
theorem li_yX6_copy : Cond.instanceMethod yX6_copy ∈ tbG := tg_at 275 (by decide +kernel) rfl
theorem ll_yX6_copy : Cond.selects RX6 yX6_copy yX6_copy ∈ tbG := tg_at 276 (by decide +kernel) rfl
theorem lk_yX6_copy : Cond.code yX6_copy cX6_copy 3 (some .int) ∈ tbG := tg_at 277 (by decide +kernel) rfl
theorem lm_RX6_144 : Cond.methodLink RX6 144 yX0_mayCopy ∈ tbG := tg_at 278 (by decide +kernel) rfl
theorem li_yX0_mayCopy : Cond.instanceMethod yX0_mayCopy ∈ tbG := tg_at 279 (by decide +kernel) rfl
theorem ll_yX0_mayCopy : Cond.selects RX0 yX0_mayCopy yX0_mayCopy ∈ tbG := tg_at 280 (by decide +kernel) rfl
theorem lk_yX0_mayCopy : Cond.code yX0_mayCopy cX0_mayCopy 6 (some .boolean) ∈ tbG := tg_at 281 (by decide +kernel) rfl
theorem lm_RX0_70 : Cond.methodLink RX0 70 yX5_leavesOf ∈ tbG := tg_at 282 (by decide +kernel) rfl
theorem lm_RX0_73 : Cond.methodLink RX0 73 yJ6_bitCount_0f7a4 ∈ tbG := tg_at 283 (by decide +kernel) rfl
theorem ls_yJ6_bitCount_0f7a4 : Cond.static yJ6_bitCount_0f7a4 ∈ tbG := tg_at 284 (by decide +kernel) rfl
theorem lk_yJ6_bitCount_0f7a4 : Cond.code yJ6_bitCount_0f7a4 cJ6_bitCount_0f7a4 1 (some .int) ∈ tbG := tg_at 285 (by decide +kernel) rfl
theorem lc_RJ6_265 : Cond.constant RJ6 265 (1431655765) ∈ tbG := tg_at 286 (by decide +kernel) rfl
theorem lc_RJ6_266 : Cond.constant RJ6 266 (858993459) ∈ tbG := tg_at 287 (by decide +kernel) rfl
theorem lc_RJ6_267 : Cond.constant RJ6 267 (252645135) ∈ tbG := tg_at 288 (by decide +kernel) rfl
theorem lm_RX0_78 : Cond.methodLink RX0 78 yX0_kindOf ∈ tbG := tg_at 289 (by decide +kernel) rfl
theorem lm_RX0_81 : Cond.methodLink RX0 81 yX2_namesOf ∈ tbG := tg_at 290 (by decide +kernel) rfl
theorem lm_RX0_84 : Cond.methodLink RX0 84 yX5_hasLeaf ∈ tbG := tg_at 291 (by decide +kernel) rfl
theorem ls_yX5_hasLeaf : Cond.static yX5_hasLeaf ∈ tbG := tg_at 292 (by decide +kernel) rfl
theorem lk_yX5_hasLeaf : Cond.code yX5_hasLeaf cX5_hasLeaf 4 (some .boolean) ∈ tbG := tg_at 293 (by decide +kernel) rfl
theorem lm_RX0_88 : Cond.methodLink RX0 88 yX0_hasRoom ∈ tbG := tg_at 294 (by decide +kernel) rfl
theorem lm_RX6_148 : Cond.methodLink RX6 148 yX5_turned ∈ tbG := tg_at 295 (by decide +kernel) rfl
theorem lm_RX6_152 : Cond.methodLink RX6 152 yJ6_bitCount_0f7a4 ∈ tbG := tg_at 296 (by decide +kernel) rfl
theorem lm_RL_52 : Cond.methodLink RL 52 yX6_rename ∈ tbG := tg_at 297 (by decide +kernel) rfl
theorem li_yX6_rename : Cond.instanceMethod yX6_rename ∈ tbG := tg_at 298 (by decide +kernel) rfl
theorem ll_yX6_rename : Cond.selects RX6 yX6_rename yX6_rename ∈ tbG := tg_at 299 (by decide +kernel) rfl
theorem lk_yX6_rename : Cond.code yX6_rename cX6_rename 4 (some .int) ∈ tbG := tg_at 300 (by decide +kernel) rfl
theorem lm_RX6_157 : Cond.methodLink RX6 157 yX0_mayRename ∈ tbG := tg_at 301 (by decide +kernel) rfl
theorem li_yX0_mayRename : Cond.instanceMethod yX0_mayRename ∈ tbG := tg_at 302 (by decide +kernel) rfl
theorem ll_yX0_mayRename : Cond.selects RX0 yX0_mayRename yX0_mayRename ∈ tbG := tg_at 303 (by decide +kernel) rfl
theorem lk_yX0_mayRename : Cond.code yX0_mayRename cX0_mayRename 6 (some .boolean) ∈ tbG := tg_at 304 (by decide +kernel) rfl
theorem lm_RX6_161 : Cond.methodLink RX6 161 yX5_moved ∈ tbG := tg_at 305 (by decide +kernel) rfl
theorem ls_yX5_moved : Cond.static yX5_moved ∈ tbG := tg_at 306 (by decide +kernel) rfl
theorem lk_yX5_moved : Cond.code yX5_moved cX5_moved 5 (some .long) ∈ tbG := tg_at 307 (by decide +kernel) rfl
theorem lm_RX5_29 : Cond.methodLink RX5 29 yX5_turned ∈ tbG := tg_at 308 (by decide +kernel) rfl
theorem lm_RL_57 : Cond.methodLink RL 57 yX6_point ∈ tbG := tg_at 309 (by decide +kernel) rfl
theorem li_yX6_point : Cond.instanceMethod yX6_point ∈ tbG := tg_at 310 (by decide +kernel) rfl
theorem ll_yX6_point : Cond.selects RX6 yX6_point yX6_point ∈ tbG := tg_at 311 (by decide +kernel) rfl
theorem lk_yX6_point : Cond.code yX6_point cX6_point 3 (some .int) ∈ tbG := tg_at 312 (by decide +kernel) rfl
theorem lm_RX6_165 : Cond.methodLink RX6 165 yX0_retarget ∈ tbG := tg_at 313 (by decide +kernel) rfl
theorem li_yX0_retarget : Cond.instanceMethod yX0_retarget ∈ tbG := tg_at 314 (by decide +kernel) rfl
theorem ll_yX0_retarget : Cond.selects RX0 yX0_retarget yX0_retarget ∈ tbG := tg_at 315 (by decide +kernel) rfl
theorem lk_yX0_retarget : Cond.code yX0_retarget cX0_retarget 4 (some .int) ∈ tbG := tg_at 316 (by decide +kernel) rfl
theorem lm_RX0_57 : Cond.methodLink RX0 57 yX0_targetOf ∈ tbG := tg_at 317 (by decide +kernel) rfl
theorem lm_RL_61 : Cond.methodLink RL 61 yX6_burn ∈ tbG := tg_at 318 (by decide +kernel) rfl
theorem li_yX6_burn : Cond.instanceMethod yX6_burn ∈ tbG := tg_at 319 (by decide +kernel) rfl
theorem ll_yX6_burn : Cond.selects RX6 yX6_burn yX6_burn ∈ tbG := tg_at 320 (by decide +kernel) rfl
theorem lk_yX6_burn : Cond.code yX6_burn cX6_burn 2 (some .int) ∈ tbG := tg_at 321 (by decide +kernel) rfl
theorem lm_RX6_168 : Cond.methodLink RX6 168 yX0_passYear ∈ tbG := tg_at 322 (by decide +kernel) rfl
theorem li_yX0_passYear : Cond.instanceMethod yX0_passYear ∈ tbG := tg_at 323 (by decide +kernel) rfl
theorem ll_yX0_passYear : Cond.selects RX0 yX0_passYear yX0_passYear ∈ tbG := tg_at 324 (by decide +kernel) rfl
theorem lk_yX0_passYear : Cond.code yX0_passYear cX0_passYear 5 (some .int) ∈ tbG := tg_at 325 (by decide +kernel) rfl
theorem lm_RX0_92 : Cond.methodLink RX0 92 yX0_burntDown ∈ tbG := tg_at 326 (by decide +kernel) rfl
theorem li_yX0_burntDown : Cond.instanceMethod yX0_burntDown ∈ tbG := tg_at 327 (by decide +kernel) rfl
theorem ll_yX0_burntDown : Cond.selects RX0 yX0_burntDown yX0_burntDown ∈ tbG := tg_at 328 (by decide +kernel) rfl
theorem lk_yX0_burntDown : Cond.code yX0_burntDown cX0_burntDown 7 (some .long) ∈ tbG := tg_at 329 (by decide +kernel) rfl
theorem lm_RX0_104 : Cond.methodLink RX0 104 yX0_isKept ∈ tbG := tg_at 330 (by decide +kernel) rfl
theorem li_yX0_isKept : Cond.instanceMethod yX0_isKept ∈ tbG := tg_at 332 (by decide +kernel) rfl
theorem lk_yX0_isKept : Cond.code yX0_isKept cX0_isKept 4 (some .boolean) ∈ tbG := tg_at 333 (by decide +kernel) rfl
theorem lm_RX0_117 : Cond.methodLink RX0 117 yX5_keptOf ∈ tbG := tg_at 334 (by decide +kernel) rfl
theorem lm_RX0_120 : Cond.methodLink RX0 120 yX2_mostKept ∈ tbG := tg_at 335 (by decide +kernel) rfl
theorem ls_yX2_mostKept : Cond.static yX2_mostKept ∈ tbG := tg_at 336 (by decide +kernel) rfl
theorem lk_yX2_mostKept : Cond.code yX2_mostKept cX2_mostKept 1 (some .int) ∈ tbG := tg_at 337 (by decide +kernel) rfl
theorem lm_RX0_123 : Cond.methodLink RX0 123 yX0_isPointedTo ∈ tbG := tg_at 338 (by decide +kernel) rfl
theorem li_yX0_isPointedTo : Cond.instanceMethod yX0_isPointedTo ∈ tbG := tg_at 340 (by decide +kernel) rfl
theorem lk_yX0_isPointedTo : Cond.code yX0_isPointedTo cX0_isPointedTo 5 (some .boolean) ∈ tbG := tg_at 341 (by decide +kernel) rfl
theorem lm_RX0_107 : Cond.methodLink RX0 107 yX5_keptOnceMore ∈ tbG := tg_at 342 (by decide +kernel) rfl
theorem ls_yX5_keptOnceMore : Cond.static yX5_keptOnceMore ∈ tbG := tg_at 343 (by decide +kernel) rfl
theorem lk_yX5_keptOnceMore : Cond.code yX5_keptOnceMore cX5_keptOnceMore 3 (some .long) ∈ tbG := tg_at 344 (by decide +kernel) rfl
theorem lc_RX5_35 : Cond.constantLong RX5 35 (64) ∈ tbG := tg_at 345 (by decide +kernel) rfl
theorem lm_RX0_110 : Cond.methodLink RX0 110 yX2_lostWith ∈ tbG := tg_at 346 (by decide +kernel) rfl
theorem ls_yX2_lostWith : Cond.static yX2_lostWith ∈ tbG := tg_at 347 (by decide +kernel) rfl
theorem lk_yX2_lostWith : Cond.code yX2_lostWith cX2_lostWith 4 (some .int) ∈ tbG := tg_at 348 (by decide +kernel) rfl
theorem lm_RX0_114 : Cond.methodLink RX0 114 yX5_without ∈ tbG := tg_at 349 (by decide +kernel) rfl
theorem ls_yX5_without : Cond.static yX5_without ∈ tbG := tg_at 350 (by decide +kernel) rfl
theorem lk_yX5_without : Cond.code yX5_without cX5_without 4 (some .long) ∈ tbG := tg_at 351 (by decide +kernel) rfl
theorem lc_RX5_33 : Cond.constantLong RX5 33 (-1) ∈ tbG := tg_at 352 (by decide +kernel) rfl
theorem lm_RX0_96 : Cond.methodLink RX0 96 yX5_allLeaves ∈ tbG := tg_at 353 (by decide +kernel) rfl
theorem ls_yX5_allLeaves : Cond.static yX5_allLeaves ∈ tbG := tg_at 354 (by decide +kernel) rfl
theorem lk_yX5_allLeaves : Cond.code yX5_allLeaves cX5_allLeaves 2 (some .int) ∈ tbG := tg_at 355 (by decide +kernel) rfl
theorem lc_RX5_27 : Cond.constantLong RX5 27 (271644049215) ∈ tbG := tg_at 356 (by decide +kernel) rfl
theorem lm_RX0_100 : Cond.methodLink RX0 100 yX0_rumoursGrown ∈ tbG := tg_at 357 (by decide +kernel) rfl
theorem li_yX0_rumoursGrown : Cond.instanceMethod yX0_rumoursGrown ∈ tbG := tg_at 358 (by decide +kernel) rfl
theorem ll_yX0_rumoursGrown : Cond.selects RX0 yX0_rumoursGrown yX0_rumoursGrown ∈ tbG := tg_at 359 (by decide +kernel) rfl
theorem lk_yX0_rumoursGrown : Cond.code yX0_rumoursGrown cX0_rumoursGrown 6 (some .long) ∈ tbG := tg_at 360 (by decide +kernel) rfl
theorem lm_RX0_126 : Cond.methodLink RX0 126 yX5_lives ∈ tbG := tg_at 361 (by decide +kernel) rfl
theorem lm_RX0_129 : Cond.methodLink RX0 129 yX0_grown ∈ tbG := tg_at 362 (by decide +kernel) rfl
theorem li_yX0_grown : Cond.instanceMethod yX0_grown ∈ tbG := tg_at 364 (by decide +kernel) rfl
theorem lk_yX0_grown : Cond.code yX0_grown cX0_grown 5 (some .long) ∈ tbG := tg_at 365 (by decide +kernel) rfl
theorem lm_RL_65 : Cond.methodLink RL 65 yX6_odds ∈ tbG := tg_at 366 (by decide +kernel) rfl
theorem li_yX6_odds : Cond.instanceMethod yX6_odds ∈ tbG := tg_at 367 (by decide +kernel) rfl
theorem ll_yX6_odds : Cond.selects RX6 yX6_odds yX6_odds ∈ tbG := tg_at 368 (by decide +kernel) rfl
theorem lk_yX6_odds : Cond.code yX6_odds cX6_odds 5 (some .int) ∈ tbG := tg_at 369 (by decide +kernel) rfl
theorem li_yX1_waysToLive : Cond.instanceMethod yX1_waysToLive ∈ tbG := tg_at 372 (by decide +kernel) rfl
theorem lk_yX1_waysToLive : Cond.code yX1_waysToLive cX1_waysToLive 11 (some .int) ∈ tbG := tg_at 373 (by decide +kernel) rfl
theorem lm_RX1_19 : Cond.methodLink RX1 19 yX5_lives ∈ tbG := tg_at 374 (by decide +kernel) rfl
theorem lm_RX1_25 : Cond.methodLink RX1 25 yX3_tenthsOf ∈ tbG := tg_at 375 (by decide +kernel) rfl
theorem lm_RX1_31 : Cond.methodLink RX1 31 yX5_fullness ∈ tbG := tg_at 376 (by decide +kernel) rfl
theorem lm_RX1_35 : Cond.methodLink RX1 35 yX0_burntDown ∈ tbG := tg_at 377 (by decide +kernel) rfl
theorem lm_RX1_41 : Cond.methodLink RX1 41 yX0_rumoursGrown ∈ tbG := tg_at 378 (by decide +kernel) rfl
theorem lm_RX1_45 : Cond.methodLink RX1 45 yX1_waysToLive ∈ tbG := tg_at 379 (by decide +kernel) rfl
theorem lm_RX6_175 : Cond.methodLink RX6 175 yX6_inLowestTerms ∈ tbG := tg_at 380 (by decide +kernel) rfl
theorem ls_yX6_inLowestTerms : Cond.static yX6_inLowestTerms ∈ tbG := tg_at 381 (by decide +kernel) rfl
theorem lk_yX6_inLowestTerms : Cond.code yX6_inLowestTerms cX6_inLowestTerms 6 (some .int) ∈ tbG := tg_at 382 (by decide +kernel) rfl
theorem lm_RX6_273 : Cond.methodLink RX6 273 yX6_power ∈ tbG := tg_at 383 (by decide +kernel) rfl
theorem ls_yX6_power : Cond.static yX6_power ∈ tbG := tg_at 384 (by decide +kernel) rfl
theorem lk_yX6_power : Cond.code yX6_power cX6_power 4 (some .int) ∈ tbG := tg_at 385 (by decide +kernel) rfl
theorem lm_RL_69 : Cond.methodLink RL 69 yX6_where ∈ tbG := tg_at 386 (by decide +kernel) rfl
theorem li_yX6_where : Cond.instanceMethod yX6_where ∈ tbG := tg_at 387 (by decide +kernel) rfl
theorem ll_yX6_where : Cond.selects RX6 yX6_where yX6_where ∈ tbG := tg_at 388 (by decide +kernel) rfl
theorem lk_yX6_where : Cond.code yX6_where cX6_where 3 (some .int) ∈ tbG := tg_at 389 (by decide +kernel) rfl
theorem lm_RX6_179 : Cond.methodLink RX6 179 yX1_bestCopy ∈ tbG := tg_at 390 (by decide +kernel) rfl
theorem li_yX1_bestCopy : Cond.instanceMethod yX1_bestCopy ∈ tbG := tg_at 391 (by decide +kernel) rfl
theorem ll_yX1_bestCopy : Cond.selects RX1 yX1_bestCopy yX1_bestCopy ∈ tbG := tg_at 392 (by decide +kernel) rfl
theorem lk_yX1_bestCopy : Cond.code yX1_bestCopy cX1_bestCopy 7 (some .int) ∈ tbG := tg_at 393 (by decide +kernel) rfl
theorem lm_RX1_53 : Cond.methodLink RX1 53 yX0_mayCopy ∈ tbG := tg_at 394 (by decide +kernel) rfl
theorem lm_RX1_57 : Cond.methodLink RX1 57 yX5_turned ∈ tbG := tg_at 395 (by decide +kernel) rfl
theorem lm_RL_73 : Cond.methodLink RL 73 yX6_sure ∈ tbG := tg_at 396 (by decide +kernel) rfl
theorem li_yX6_sure : Cond.instanceMethod yX6_sure ∈ tbG := tg_at 397 (by decide +kernel) rfl
theorem ll_yX6_sure : Cond.selects RX6 yX6_sure yX6_sure ∈ tbG := tg_at 398 (by decide +kernel) rfl
theorem lk_yX6_sure : Cond.code yX6_sure cX6_sure 6 (some .int) ∈ tbG := tg_at 399 (by decide +kernel) rfl
theorem lm_RX6_185 : Cond.methodLink RX6 185 yX1_fewestSure ∈ tbG := tg_at 400 (by decide +kernel) rfl
theorem li_yX1_fewestSure : Cond.instanceMethod yX1_fewestSure ∈ tbG := tg_at 401 (by decide +kernel) rfl
theorem ll_yX1_fewestSure : Cond.selects RX1 yX1_fewestSure yX1_fewestSure ∈ tbG := tg_at 402 (by decide +kernel) rfl
theorem lk_yX1_fewestSure : Cond.code yX1_fewestSure cX1_fewestSure 5 (some .int) ∈ tbG := tg_at 403 (by decide +kernel) rfl
theorem lm_RX1_61 : Cond.methodLink RX1 61 yX2_namesOf ∈ tbG := tg_at 404 (by decide +kernel) rfl
theorem lm_RX1_66 : Cond.methodLink RX1 66 yJ6_bitCount_0f7a4 ∈ tbG := tg_at 405 (by decide +kernel) rfl
theorem lm_RX1_71 : Cond.methodLink RX1 71 yX1_isLeftForSure ∈ tbG := tg_at 406 (by decide +kernel) rfl
theorem li_yX1_isLeftForSure : Cond.instanceMethod yX1_isLeftForSure ∈ tbG := tg_at 408 (by decide +kernel) rfl
theorem lk_yX1_isLeftForSure : Cond.code yX1_isLeftForSure cX1_isLeftForSure 7 (some .boolean) ∈ tbG := tg_at 409 (by decide +kernel) rfl
theorem lm_RX1_75 : Cond.methodLink RX1 75 yX3_mayBurn ∈ tbG := tg_at 410 (by decide +kernel) rfl
theorem li_yX3_mayBurn : Cond.instanceMethod yX3_mayBurn ∈ tbG := tg_at 411 (by decide +kernel) rfl
theorem ll_yX3_mayBurn : Cond.selects RX3 yX3_mayBurn yX3_mayBurn ∈ tbG := tg_at 412 (by decide +kernel) rfl
theorem lk_yX3_mayBurn : Cond.code yX3_mayBurn cX3_mayBurn 2 (some .boolean) ∈ tbG := tg_at 413 (by decide +kernel) rfl
theorem lm_RX3_25 : Cond.methodLink RX3 25 yX3_tenthsOf ∈ tbG := tg_at 414 (by decide +kernel) rfl
theorem lm_RX1_79 : Cond.methodLink RX1 79 yX2_lostWith ∈ tbG := tg_at 415 (by decide +kernel) rfl
theorem lm_RL_77 : Cond.methodLink RL 77 yX6_nowhere ∈ tbG := tg_at 416 (by decide +kernel) rfl
theorem li_yX6_nowhere : Cond.instanceMethod yX6_nowhere ∈ tbG := tg_at 417 (by decide +kernel) rfl
theorem ll_yX6_nowhere : Cond.selects RX6 yX6_nowhere yX6_nowhere ∈ tbG := tg_at 418 (by decide +kernel) rfl
theorem lk_yX6_nowhere : Cond.code yX6_nowhere cX6_nowhere 1 (some .int) ∈ tbG := tg_at 419 (by decide +kernel) rfl
theorem lm_RX6_188 : Cond.methodLink RX6 188 yX0_pointingNowhere ∈ tbG := tg_at 420 (by decide +kernel) rfl
theorem li_yX0_pointingNowhere : Cond.instanceMethod yX0_pointingNowhere ∈ tbG := tg_at 421 (by decide +kernel) rfl
theorem ll_yX0_pointingNowhere : Cond.selects RX0 yX0_pointingNowhere yX0_pointingNowhere ∈ tbG := tg_at 422 (by decide +kernel) rfl
theorem lk_yX0_pointingNowhere : Cond.code yX0_pointingNowhere cX0_pointingNowhere 4 (some .int) ∈ tbG := tg_at 423 (by decide +kernel) rfl
theorem lm_RL_81 : Cond.methodLink RL 81 yX6_moving ∈ tbG := tg_at 424 (by decide +kernel) rfl
theorem li_yX6_moving : Cond.instanceMethod yX6_moving ∈ tbG := tg_at 425 (by decide +kernel) rfl
theorem ll_yX6_moving : Cond.selects RX6 yX6_moving yX6_moving ∈ tbG := tg_at 426 (by decide +kernel) rfl
theorem lk_yX6_moving : Cond.code yX6_moving cX6_moving 2 (some .int) ∈ tbG := tg_at 427 (by decide +kernel) rfl
theorem lm_RX6_194 : Cond.methodLink RX6 194 yX1_fewestRenamings ∈ tbG := tg_at 428 (by decide +kernel) rfl
theorem li_yX1_fewestRenamings : Cond.instanceMethod yX1_fewestRenamings ∈ tbG := tg_at 429 (by decide +kernel) rfl
theorem ll_yX1_fewestRenamings : Cond.selects RX1 yX1_fewestRenamings yX1_fewestRenamings ∈ tbG := tg_at 430 (by decide +kernel) rfl
theorem lk_yX1_fewestRenamings : Cond.code yX1_fewestRenamings cX1_fewestRenamings 4 (some .int) ∈ tbG := tg_at 431 (by decide +kernel) rfl
theorem lm_RX1_83 : Cond.methodLink RX1 83 yJ9_max_7cf53 ∈ tbG := tg_at 432 (by decide +kernel) rfl
theorem ls_yJ9_max_7cf53 : Cond.static yJ9_max_7cf53 ∈ tbG := tg_at 433 (by decide +kernel) rfl
theorem lk_yJ9_max_7cf53 : Cond.code yJ9_max_7cf53 cJ9_max_7cf53 2 (some .int) ∈ tbG := tg_at 434 (by decide +kernel) rfl
theorem lm_RX1_88 : Cond.methodLink RX1 88 yX5_allLeaves ∈ tbG := tg_at 435 (by decide +kernel) rfl
theorem lm_RL_85 : Cond.methodLink RL 85 yX6_ashes ∈ tbG := tg_at 436 (by decide +kernel) rfl
theorem li_yX6_ashes : Cond.instanceMethod yX6_ashes ∈ tbG := tg_at 437 (by decide +kernel) rfl
theorem ll_yX6_ashes : Cond.selects RX6 yX6_ashes yX6_ashes ∈ tbG := tg_at 438 (by decide +kernel) rfl
theorem lk_yX6_ashes : Cond.code yX6_ashes cX6_ashes 2 (some .int) ∈ tbG := tg_at 439 (by decide +kernel) rfl
theorem lm_RX6_200 : Cond.methodLink RX6 200 yX0_addAshes ∈ tbG := tg_at 440 (by decide +kernel) rfl
theorem li_yX0_addAshes : Cond.instanceMethod yX0_addAshes ∈ tbG := tg_at 441 (by decide +kernel) rfl
theorem ll_yX0_addAshes : Cond.selects RX0 yX0_addAshes yX0_addAshes ∈ tbG := tg_at 442 (by decide +kernel) rfl
theorem lk_yX0_addAshes : Cond.code yX0_addAshes cX0_addAshes 2 (some .int) ∈ tbG := tg_at 443 (by decide +kernel) rfl
theorem lm_RL_89 : Cond.methodLink RL 89 yX6_forget ∈ tbG := tg_at 444 (by decide +kernel) rfl
theorem li_yX6_forget : Cond.instanceMethod yX6_forget ∈ tbG := tg_at 445 (by decide +kernel) rfl
theorem ll_yX6_forget : Cond.selects RX6 yX6_forget yX6_forget ∈ tbG := tg_at 446 (by decide +kernel) rfl
theorem lk_yX6_forget : Cond.code yX6_forget cX6_forget 1 (some .int) ∈ tbG := tg_at 447 (by decide +kernel) rfl
theorem lm_RX6_203 : Cond.methodLink RX6 203 yX0_clearAshes ∈ tbG := tg_at 448 (by decide +kernel) rfl
theorem li_yX0_clearAshes : Cond.instanceMethod yX0_clearAshes ∈ tbG := tg_at 449 (by decide +kernel) rfl
theorem ll_yX0_clearAshes : Cond.selects RX0 yX0_clearAshes yX0_clearAshes ∈ tbG := tg_at 450 (by decide +kernel) rfl
theorem lk_yX0_clearAshes : Cond.code yX0_clearAshes cX0_clearAshes 2 (some .int) ∈ tbG := tg_at 451 (by decide +kernel) rfl
theorem lm_RL_93 : Cond.methodLink RL 93 yX6_fits ∈ tbG := tg_at 452 (by decide +kernel) rfl
theorem li_yX6_fits : Cond.instanceMethod yX6_fits ∈ tbG := tg_at 453 (by decide +kernel) rfl
theorem ll_yX6_fits : Cond.selects RX6 yX6_fits yX6_fits ∈ tbG := tg_at 454 (by decide +kernel) rfl
theorem lk_yX6_fits : Cond.code yX6_fits cX6_fits 1 (some .int) ∈ tbG := tg_at 455 (by decide +kernel) rfl
theorem lm_RX6_206 : Cond.methodLink RX6 206 yX1_rowsThatFit ∈ tbG := tg_at 456 (by decide +kernel) rfl
theorem li_yX1_rowsThatFit : Cond.instanceMethod yX1_rowsThatFit ∈ tbG := tg_at 457 (by decide +kernel) rfl
theorem ll_yX1_rowsThatFit : Cond.selects RX1 yX1_rowsThatFit yX1_rowsThatFit ∈ tbG := tg_at 458 (by decide +kernel) rfl
theorem lk_yX1_rowsThatFit : Cond.code yX1_rowsThatFit cX1_rowsThatFit 1 (some .int) ∈ tbG := tg_at 459 (by decide +kernel) rfl
theorem lm_RX1_92 : Cond.methodLink RX1 92 yX1_rowsFrom ∈ tbG := tg_at 460 (by decide +kernel) rfl
theorem li_yX1_rowsFrom : Cond.instanceMethod yX1_rowsFrom ∈ tbG := tg_at 462 (by decide +kernel) rfl
theorem lk_yX1_rowsFrom : Cond.code yX1_rowsFrom cX1_rowsFrom 11 (some .int) ∈ tbG := tg_at 463 (by decide +kernel) rfl
theorem lm_RX1_96 : Cond.methodLink RX1 96 yX1_isAsTold ∈ tbG := tg_at 464 (by decide +kernel) rfl
theorem li_yX1_isAsTold : Cond.instanceMethod yX1_isAsTold ∈ tbG := tg_at 466 (by decide +kernel) rfl
theorem lk_yX1_isAsTold : Cond.code yX1_isAsTold cX1_isAsTold 5 (some .boolean) ∈ tbG := tg_at 467 (by decide +kernel) rfl
theorem lm_RX1_113 : Cond.methodLink RX1 113 yX0_toldOf ∈ tbG := tg_at 468 (by decide +kernel) rfl
theorem li_yX0_toldOf : Cond.instanceMethod yX0_toldOf ∈ tbG := tg_at 469 (by decide +kernel) rfl
theorem ll_yX0_toldOf : Cond.selects RX0 yX0_toldOf yX0_toldOf ∈ tbG := tg_at 470 (by decide +kernel) rfl
theorem lk_yX0_toldOf : Cond.code yX0_toldOf cX0_toldOf 2 (some .int) ∈ tbG := tg_at 471 (by decide +kernel) rfl
theorem lm_RX1_116 : Cond.methodLink RX1 116 yX5_living ∈ tbG := tg_at 472 (by decide +kernel) rfl
theorem ls_yX5_living : Cond.static yX5_living ∈ tbG := tg_at 473 (by decide +kernel) rfl
theorem lk_yX5_living : Cond.code yX5_living cX5_living 4 (some .int) ∈ tbG := tg_at 474 (by decide +kernel) rfl
theorem lm_RX5_15 : Cond.methodLink RX5 15 yX5_lives ∈ tbG := tg_at 475 (by decide +kernel) rfl
theorem lm_RX1_103 : Cond.methodLink RX1 103 yX1_nothingToldFrom ∈ tbG := tg_at 476 (by decide +kernel) rfl
theorem li_yX1_nothingToldFrom : Cond.instanceMethod yX1_nothingToldFrom ∈ tbG := tg_at 478 (by decide +kernel) rfl
theorem lk_yX1_nothingToldFrom : Cond.code yX1_nothingToldFrom cX1_nothingToldFrom 3 (some .boolean) ∈ tbG := tg_at 479 (by decide +kernel) rfl
theorem lm_RX1_106 : Cond.methodLink RX1 106 yX3_lettersThatMayBurn ∈ tbG := tg_at 480 (by decide +kernel) rfl
theorem li_yX3_lettersThatMayBurn : Cond.instanceMethod yX3_lettersThatMayBurn ∈ tbG := tg_at 481 (by decide +kernel) rfl
theorem ll_yX3_lettersThatMayBurn : Cond.selects RX3 yX3_lettersThatMayBurn yX3_lettersThatMayBurn ∈ tbG := tg_at 482 (by decide +kernel) rfl
theorem lk_yX3_lettersThatMayBurn : Cond.code yX3_lettersThatMayBurn cX3_lettersThatMayBurn 3 (some .int) ∈ tbG := tg_at 483 (by decide +kernel) rfl
theorem lm_RX3_28 : Cond.methodLink RX3 28 yX3_mayBurn ∈ tbG := tg_at 484 (by decide +kernel) rfl
theorem lm_RL_97 : Cond.methodLink RL 97 yX6_burnt ∈ tbG := tg_at 486 (by decide +kernel) rfl
theorem li_yX6_burnt : Cond.instanceMethod yX6_burnt ∈ tbG := tg_at 487 (by decide +kernel) rfl
theorem ll_yX6_burnt : Cond.selects RX6 yX6_burnt yX6_burnt ∈ tbG := tg_at 488 (by decide +kernel) rfl
theorem lk_yX6_burnt : Cond.code yX6_burnt cX6_burnt 2 (some .int) ∈ tbG := tg_at 489 (by decide +kernel) rfl
theorem lm_RX6_209 : Cond.methodLink RX6 209 yX1_onlyLetterIn ∈ tbG := tg_at 490 (by decide +kernel) rfl
theorem li_yX1_onlyLetterIn : Cond.instanceMethod yX1_onlyLetterIn ∈ tbG := tg_at 491 (by decide +kernel) rfl
theorem ll_yX1_onlyLetterIn : Cond.selects RX1 yX1_onlyLetterIn yX1_onlyLetterIn ∈ tbG := tg_at 492 (by decide +kernel) rfl
theorem lk_yX1_onlyLetterIn : Cond.code yX1_onlyLetterIn cX1_onlyLetterIn 4 (some .int) ∈ tbG := tg_at 493 (by decide +kernel) rfl
theorem lm_RL_101 : Cond.methodLink RL 101 yX6_years ∈ tbG := tg_at 494 (by decide +kernel) rfl
theorem li_yX6_years : Cond.instanceMethod yX6_years ∈ tbG := tg_at 495 (by decide +kernel) rfl
theorem ll_yX6_years : Cond.selects RX6 yX6_years yX6_years ∈ tbG := tg_at 496 (by decide +kernel) rfl
theorem lk_yX6_years : Cond.code yX6_years cX6_years 9 (some .int) ∈ tbG := tg_at 497 (by decide +kernel) rfl
theorem lm_RX6_212 : Cond.methodLink RX6 212 yX6_nextSeed ∈ tbG := tg_at 498 (by decide +kernel) rfl
theorem ls_yX6_nextSeed : Cond.static yX6_nextSeed ∈ tbG := tg_at 499 (by decide +kernel) rfl
theorem lk_yX6_nextSeed : Cond.code yX6_nextSeed cX6_nextSeed 1 (some .int) ∈ tbG := tg_at 500 (by decide +kernel) rfl
theorem lc_RX6_276 : Cond.constantLong RX6 276 (1103515245) ∈ tbG := tg_at 501 (by decide +kernel) rfl
theorem lc_RX6_278 : Cond.constantLong RX6 278 (12345) ∈ tbG := tg_at 502 (by decide +kernel) rfl
theorem lc_RX6_280 : Cond.constantLong RX6 280 (2147483647) ∈ tbG := tg_at 503 (by decide +kernel) rfl
theorem lc_RX6_215 : Cond.constant RX6 215 (65536) ∈ tbG := tg_at 504 (by decide +kernel) rfl
theorem lm_RX6_216 : Cond.methodLink RX6 216 yX3_letterByDraw ∈ tbG := tg_at 505 (by decide +kernel) rfl
theorem li_yX3_letterByDraw : Cond.instanceMethod yX3_letterByDraw ∈ tbG := tg_at 506 (by decide +kernel) rfl
theorem ll_yX3_letterByDraw : Cond.selects RX3 yX3_letterByDraw yX3_letterByDraw ∈ tbG := tg_at 507 (by decide +kernel) rfl
theorem lk_yX3_letterByDraw : Cond.code yX3_letterByDraw cX3_letterByDraw 4 (some .int) ∈ tbG := tg_at 508 (by decide +kernel) rfl
theorem lm_RX6_219 : Cond.methodLink RX6 219 yX0_burntDown ∈ tbG := tg_at 509 (by decide +kernel) rfl
theorem lm_RX6_223 : Cond.methodLink RX6 223 yX0_rumoursGrown ∈ tbG := tg_at 510 (by decide +kernel) rfl
theorem lm_RX6_227 : Cond.methodLink RX6 227 yX5_living ∈ tbG := tg_at 511 (by decide +kernel) rfl
theorem lm_RX6_231 : Cond.methodLink RX6 231 yX5_allLeaves ∈ tbG := tg_at 512 (by decide +kernel) rfl
theorem lm_RL_105 : Cond.methodLink RL 105 yX6_image ∈ tbG := tg_at 513 (by decide +kernel) rfl
theorem li_yX6_image : Cond.instanceMethod yX6_image ∈ tbG := tg_at 514 (by decide +kernel) rfl
theorem ll_yX6_image : Cond.selects RX6 yX6_image yX6_image ∈ tbG := tg_at 515 (by decide +kernel) rfl
theorem lk_yX6_image : Cond.code yX6_image cX6_image 1 (some .int) ∈ tbG := tg_at 516 (by decide +kernel) rfl
theorem lm_RX6_234 : Cond.methodLink RX6 234 yX0_become ∈ tbG := tg_at 517 (by decide +kernel) rfl
theorem li_yX0_become : Cond.instanceMethod yX0_become ∈ tbG := tg_at 518 (by decide +kernel) rfl
theorem ll_yX0_become : Cond.selects RX0 yX0_become yX0_become ∈ tbG := tg_at 519 (by decide +kernel) rfl
theorem lk_yX0_become : Cond.code yX0_become cX0_become 2 none ∈ tbG := tg_at 520 (by decide +kernel) rfl
theorem lm_RL_109 : Cond.methodLink RL 109 yX6_restore ∈ tbG := tg_at 524 (by decide +kernel) rfl
theorem li_yX6_restore : Cond.instanceMethod yX6_restore ∈ tbG := tg_at 525 (by decide +kernel) rfl
theorem ll_yX6_restore : Cond.selects RX6 yX6_restore yX6_restore ∈ tbG := tg_at 526 (by decide +kernel) rfl
theorem lk_yX6_restore : Cond.code yX6_restore cX6_restore 1 (some .int) ∈ tbG := tg_at 527 (by decide +kernel) rfl
theorem lm_RL_113 : Cond.methodLink RL 113 yX6_count ∈ tbG := tg_at 528 (by decide +kernel) rfl
theorem li_yX6_count : Cond.instanceMethod yX6_count ∈ tbG := tg_at 529 (by decide +kernel) rfl
theorem ll_yX6_count : Cond.selects RX6 yX6_count yX6_count ∈ tbG := tg_at 530 (by decide +kernel) rfl
theorem lk_yX6_count : Cond.code yX6_count cX6_count 2 (some .int) ∈ tbG := tg_at 531 (by decide +kernel) rfl
theorem lm_RL_117 : Cond.methodLink RL 117 yX6_digest ∈ tbG := tg_at 532 (by decide +kernel) rfl
theorem li_yX6_digest : Cond.instanceMethod yX6_digest ∈ tbG := tg_at 533 (by decide +kernel) rfl
theorem ll_yX6_digest : Cond.selects RX6 yX6_digest yX6_digest ∈ tbG := tg_at 534 (by decide +kernel) rfl
theorem lk_yX6_digest : Cond.code yX6_digest cX6_digest 4 (some .long) ∈ tbG := tg_at 535 (by decide +kernel) rfl
theorem lc_RX6_244 : Cond.constantLong RX6 244 (769) ∈ tbG := tg_at 536 (by decide +kernel) rfl
theorem lm_RX6_246 : Cond.methodLink RX6 246 yX6_under ∈ tbG := tg_at 537 (by decide +kernel) rfl
theorem lm_RX6_249 : Cond.methodLink RX6 249 yX6_mixed ∈ tbG := tg_at 538 (by decide +kernel) rfl
theorem ls_yX6_mixed : Cond.static yX6_mixed ∈ tbG := tg_at 539 (by decide +kernel) rfl
theorem lk_yX6_mixed : Cond.code yX6_mixed cX6_mixed 4 (some .long) ∈ tbG := tg_at 540 (by decide +kernel) rfl
theorem lc_RX6_271 : Cond.constantLong RX6 271 (31) ∈ tbG := tg_at 541 (by decide +kernel) rfl
theorem lm_RX6_253 : Cond.methodLink RX6 253 yX6_mixedWithFile ∈ tbG := tg_at 542 (by decide +kernel) rfl
theorem li_yX6_mixedWithFile : Cond.instanceMethod yX6_mixedWithFile ∈ tbG := tg_at 544 (by decide +kernel) rfl
theorem lk_yX6_mixedWithFile : Cond.code yX6_mixedWithFile cX6_mixedWithFile 7 (some .long) ∈ tbG := tg_at 545 (by decide +kernel) rfl
theorem lm_RX6_268 : Cond.methodLink RX6 268 yX6_about ∈ tbG := tg_at 546 (by decide +kernel) rfl
theorem lm_RX6_256 : Cond.methodLink RX6 256 yX6_nowhere ∈ tbG := tg_at 547 (by decide +kernel) rfl
theorem lm_RX6_259 : Cond.methodLink RX6 259 yX6_fits ∈ tbG := tg_at 548 (by decide +kernel) rfl
theorem lm_RX6_262 : Cond.methodLink RX6 262 yX4_codeAt ∈ tbG := tg_at 549 (by decide +kernel) rfl
theorem lm_RX6_265 : Cond.methodLink RX6 265 yX6_count ∈ tbG := tg_at 550 (by decide +kernel) rfl
theorem lq_RL_10 : Cond.classLink RL 10 RX7 ∈ tbG := tg_at 551 (by decide +kernel) rfl
theorem ln_RX7 : Cond.instantiable RX7 29 ∈ tbG := tg_at 552 (by decide +kernel) rfl
theorem lm_RL_12 : Cond.methodLink RL 12 yX7_init ∈ tbG := tg_at 553 (by decide +kernel) rfl
theorem li_yX7_init : Cond.instanceMethod yX7_init ∈ tbG := tg_at 554 (by decide +kernel) rfl
theorem lk_yX7_init : Cond.code yX7_init cX7_init 1 none ∈ tbG := tg_at 555 (by decide +kernel) rfl
theorem lm_RX7_1 : Cond.methodLink RX7 1 objectInit ∈ tbG := tg_at 556 (by decide +kernel) rfl
theorem lf_RX7_7 : Cond.fieldLink RX7 7 "BurntLettersModel" "page" "[I" ∈ tbG := tg_at 557 (by decide +kernel) rfl
theorem lf_RX7_65 : Cond.fieldLink RX7 65 "BurntLettersModel" "pageMany" "I" ∈ tbG := tg_at 558 (by decide +kernel) rfl
theorem lf_RX7_78 : Cond.fieldLink RX7 78 "BurntLettersModel" "room" "I" ∈ tbG := tg_at 559 (by decide +kernel) rfl
theorem lf_RX7_84 : Cond.fieldLink RX7 84 "BurntLettersModel" "yearNow" "I" ∈ tbG := tg_at 560 (by decide +kernel) rfl
theorem lf_RX7_90 : Cond.fieldLink RX7 90 "BurntLettersModel" "lawsRead" "I" ∈ tbG := tg_at 561 (by decide +kernel) rfl
theorem lf_RX7_13 : Cond.fieldLink RX7 13 "BurntLettersModel" "lots" "[I" ∈ tbG := tg_at 562 (by decide +kernel) rfl
theorem lf_RX7_81 : Cond.fieldLink RX7 81 "BurntLettersModel" "files" "I" ∈ tbG := tg_at 563 (by decide +kernel) rfl
theorem lf_RX7_16 : Cond.fieldLink RX7 16 "BurntLettersModel" "rows" "[I" ∈ tbG := tg_at 564 (by decide +kernel) rfl
theorem lf_RX7_19 : Cond.fieldLink RX7 19 "BurntLettersModel" "leaves" "[I" ∈ tbG := tg_at 565 (by decide +kernel) rfl
theorem lf_RX7_22 : Cond.fieldLink RX7 22 "BurntLettersModel" "kept" "[I" ∈ tbG := tg_at 566 (by decide +kernel) rfl
theorem lf_RX7_25 : Cond.fieldLink RX7 25 "BurntLettersModel" "now" "[I" ∈ tbG := tg_at 567 (by decide +kernel) rfl
theorem lf_RX7_28 : Cond.fieldLink RX7 28 "BurntLettersModel" "nowKept" "[I" ∈ tbG := tg_at 568 (by decide +kernel) rfl
theorem lf_RX7_31 : Cond.fieldLink RX7 31 "BurntLettersModel" "ahead" "[I" ∈ tbG := tg_at 569 (by decide +kernel) rfl
theorem lf_RX7_166 : Cond.fieldLink RX7 166 "BurntLettersModel" "sureMany" "I" ∈ tbG := tg_at 570 (by decide +kernel) rfl
theorem lf_RX7_183 : Cond.fieldLink RX7 183 "BurntLettersModel" "movingMany" "I" ∈ tbG := tg_at 571 (by decide +kernel) rfl
theorem lf_RX7_34 : Cond.fieldLink RX7 34 "BurntLettersModel" "next" "[I" ∈ tbG := tg_at 572 (by decide +kernel) rfl
theorem lf_RX7_87 : Cond.fieldLink RX7 87 "BurntLettersModel" "ashMany" "I" ∈ tbG := tg_at 573 (by decide +kernel) rfl
theorem lf_RX7_37 : Cond.fieldLink RX7 37 "BurntLettersModel" "ashRows" "[I" ∈ tbG := tg_at 574 (by decide +kernel) rfl
theorem lf_RX7_40 : Cond.fieldLink RX7 40 "BurntLettersModel" "burns" "[I" ∈ tbG := tg_at 575 (by decide +kernel) rfl
theorem lf_RX7_202 : Cond.fieldLink RX7 202 "BurntLettersModel" "seedNow" "I" ∈ tbG := tg_at 576 (by decide +kernel) rfl
theorem lf_RX7_55 : Cond.fieldLink RX7 55 "BurntLettersModel" "keptLaw" "I" ∈ tbG := tg_at 577 (by decide +kernel) rfl
theorem lf_RX7_224 : Cond.fieldLink RX7 224 "BurntLettersModel" "keptFiles" "I" ∈ tbG := tg_at 578 (by decide +kernel) rfl
theorem lf_RX7_227 : Cond.fieldLink RX7 227 "BurntLettersModel" "keptYear" "I" ∈ tbG := tg_at 579 (by decide +kernel) rfl
theorem lf_RX7_230 : Cond.fieldLink RX7 230 "BurntLettersModel" "keptAshMany" "I" ∈ tbG := tg_at 580 (by decide +kernel) rfl
theorem lf_RX7_43 : Cond.fieldLink RX7 43 "BurntLettersModel" "keptRows" "[I" ∈ tbG := tg_at 581 (by decide +kernel) rfl
theorem lf_RX7_46 : Cond.fieldLink RX7 46 "BurntLettersModel" "keptLeaves" "[I" ∈ tbG := tg_at 582 (by decide +kernel) rfl
theorem lf_RX7_49 : Cond.fieldLink RX7 49 "BurntLettersModel" "keptKept" "[I" ∈ tbG := tg_at 583 (by decide +kernel) rfl
theorem lf_RX7_52 : Cond.fieldLink RX7 52 "BurntLettersModel" "keptAshes" "[I" ∈ tbG := tg_at 584 (by decide +kernel) rfl
theorem lf_RX7_238 : Cond.fieldLink RX7 238 "BurntLettersModel" "hash" "J" ∈ tbG := tg_at 585 (by decide +kernel) rfl
theorem lm_RL_17 : Cond.methodLink RL 17 yX7_letter ∈ tbG := tg_at 645 (by decide +kernel) rfl
theorem li_yX7_letter : Cond.instanceMethod yX7_letter ∈ tbG := tg_at 646 (by decide +kernel) rfl
theorem ll_yX7_letter : Cond.selects RX7 yX7_letter yX7_letter ∈ tbG := tg_at 647 (by decide +kernel) rfl
theorem lk_yX7_letter : Cond.code yX7_letter cX7_letter 2 (some .int) ∈ tbG := tg_at 648 (by decide +kernel) rfl
theorem lc_RX7_59 : Cond.constantLong RX7 59 (126) ∈ tbG := tg_at 649 (by decide +kernel) rfl
theorem lm_RX7_61 : Cond.methodLink RX7 61 yX7_in ∈ tbG := tg_at 650 (by decide +kernel) rfl
theorem ls_yX7_in : Cond.static yX7_in ∈ tbG := tg_at 651 (by decide +kernel) rfl
theorem lk_yX7_in : Cond.code yX7_in cX7_in 6 (some .boolean) ∈ tbG := tg_at 652 (by decide +kernel) rfl
theorem lm_RL_22 : Cond.methodLink RL 22 yX7_blank ∈ tbG := tg_at 653 (by decide +kernel) rfl
theorem li_yX7_blank : Cond.instanceMethod yX7_blank ∈ tbG := tg_at 654 (by decide +kernel) rfl
theorem ll_yX7_blank : Cond.selects RX7 yX7_blank yX7_blank ∈ tbG := tg_at 655 (by decide +kernel) rfl
theorem lk_yX7_blank : Cond.code yX7_blank cX7_blank 2 (some .int) ∈ tbG := tg_at 656 (by decide +kernel) rfl
theorem lm_RL_26 : Cond.methodLink RL 26 yX7_fault ∈ tbG := tg_at 657 (by decide +kernel) rfl
theorem li_yX7_fault : Cond.instanceMethod yX7_fault ∈ tbG := tg_at 658 (by decide +kernel) rfl
theorem ll_yX7_fault : Cond.selects RX7 yX7_fault yX7_fault ∈ tbG := tg_at 659 (by decide +kernel) rfl
theorem lk_yX7_fault : Cond.code yX7_fault cX7_fault 1 (some .int) ∈ tbG := tg_at 660 (by decide +kernel) rfl
theorem lm_RX7_74 : Cond.methodLink RX7 74 yX7_faultOf ∈ tbG := tg_at 661 (by decide +kernel) rfl
theorem li_yX7_faultOf : Cond.instanceMethod yX7_faultOf ∈ tbG := tg_at 663 (by decide +kernel) rfl
theorem lk_yX7_faultOf : Cond.code yX7_faultOf cX7_faultOf 3 (some .int) ∈ tbG := tg_at 664 (by decide +kernel) rfl
theorem lm_RX7_70 : Cond.methodLink RX7 70 yX7_isGood ∈ tbG := tg_at 665 (by decide +kernel) rfl
theorem ls_yX7_isGood : Cond.static yX7_isGood ∈ tbG := tg_at 666 (by decide +kernel) rfl
theorem lk_yX7_isGood : Cond.code yX7_isGood cX7_isGood 4 (some .boolean) ∈ tbG := tg_at 667 (by decide +kernel) rfl
theorem lc_RX7_68 : Cond.constantLong RX7 68 (9) ∈ tbG := tg_at 668 (by decide +kernel) rfl
theorem lm_RL_30 : Cond.methodLink RL 30 yX7_law ∈ tbG := tg_at 669 (by decide +kernel) rfl
theorem li_yX7_law : Cond.instanceMethod yX7_law ∈ tbG := tg_at 670 (by decide +kernel) rfl
theorem ll_yX7_law : Cond.selects RX7 yX7_law yX7_law ∈ tbG := tg_at 671 (by decide +kernel) rfl
theorem lk_yX7_law : Cond.code yX7_law cX7_law 2 (some .int) ∈ tbG := tg_at 672 (by decide +kernel) rfl
theorem lm_RL_35 : Cond.methodLink RL 35 yX7_under ∈ tbG := tg_at 673 (by decide +kernel) rfl
theorem li_yX7_under : Cond.instanceMethod yX7_under ∈ tbG := tg_at 674 (by decide +kernel) rfl
theorem ll_yX7_under : Cond.selects RX7 yX7_under yX7_under ∈ tbG := tg_at 675 (by decide +kernel) rfl
theorem lk_yX7_under : Cond.code yX7_under cX7_under 3 (some .int) ∈ tbG := tg_at 676 (by decide +kernel) rfl
theorem lm_RX7_99 : Cond.methodLink RX7 99 yX7_isLetter ∈ tbG := tg_at 677 (by decide +kernel) rfl
theorem ls_yX7_isLetter : Cond.static yX7_isLetter ∈ tbG := tg_at 678 (by decide +kernel) rfl
theorem lk_yX7_isLetter : Cond.code yX7_isLetter cX7_isLetter 1 (some .boolean) ∈ tbG := tg_at 679 (by decide +kernel) rfl
theorem lc_RX7_93 : Cond.constantLong RX7 93 (5) ∈ tbG := tg_at 680 (by decide +kernel) rfl
theorem lm_RX7_103 : Cond.methodLink RX7 103 yX7_tellUnder ∈ tbG := tg_at 681 (by decide +kernel) rfl
theorem li_yX7_tellUnder : Cond.instanceMethod yX7_tellUnder ∈ tbG := tg_at 683 (by decide +kernel) rfl
theorem lk_yX7_tellUnder : Cond.code yX7_tellUnder cX7_tellUnder 3 (some .int) ∈ tbG := tg_at 684 (by decide +kernel) rfl
theorem lm_RX7_95 : Cond.methodLink RX7 95 yX7_fullness ∈ tbG := tg_at 685 (by decide +kernel) rfl
theorem li_yX7_fullness : Cond.instanceMethod yX7_fullness ∈ tbG := tg_at 687 (by decide +kernel) rfl
theorem lk_yX7_fullness : Cond.code yX7_fullness cX7_fullness 5 (some .int) ∈ tbG := tg_at 688 (by decide +kernel) rfl
theorem lm_RL_39 : Cond.methodLink RL 39 yX7_file ∈ tbG := tg_at 689 (by decide +kernel) rfl
theorem li_yX7_file : Cond.instanceMethod yX7_file ∈ tbG := tg_at 690 (by decide +kernel) rfl
theorem ll_yX7_file : Cond.selects RX7 yX7_file yX7_file ∈ tbG := tg_at 691 (by decide +kernel) rfl
theorem lk_yX7_file : Cond.code yX7_file cX7_file 3 (some .int) ∈ tbG := tg_at 692 (by decide +kernel) rfl
theorem lc_RX7_107 : Cond.constantLong RX7 107 (4) ∈ tbG := tg_at 693 (by decide +kernel) rfl
theorem lm_RX7_109 : Cond.methodLink RX7 109 yX7_lacks ∈ tbG := tg_at 694 (by decide +kernel) rfl
theorem li_yX7_lacks : Cond.instanceMethod yX7_lacks ∈ tbG := tg_at 696 (by decide +kernel) rfl
theorem lk_yX7_lacks : Cond.code yX7_lacks cX7_lacks 1 (some .boolean) ∈ tbG := tg_at 697 (by decide +kernel) rfl
theorem lm_RL_43 : Cond.methodLink RL 43 yX7_about ∈ tbG := tg_at 698 (by decide +kernel) rfl
theorem li_yX7_about : Cond.instanceMethod yX7_about ∈ tbG := tg_at 699 (by decide +kernel) rfl
theorem ll_yX7_about : Cond.selects RX7 yX7_about yX7_about ∈ tbG := tg_at 700 (by decide +kernel) rfl
theorem lk_yX7_about : Cond.code yX7_about cX7_about 3 (some .int) ∈ tbG := tg_at 701 (by decide +kernel) rfl
theorem lm_RX7_117 : Cond.methodLink RX7 117 yX7_isFile ∈ tbG := tg_at 702 (by decide +kernel) rfl
theorem li_yX7_isFile : Cond.instanceMethod yX7_isFile ∈ tbG := tg_at 704 (by decide +kernel) rfl
theorem lk_yX7_isFile : Cond.code yX7_isFile cX7_isFile 2 (some .boolean) ∈ tbG := tg_at 705 (by decide +kernel) rfl
theorem lm_RX7_120 : Cond.methodLink RX7 120 yX7_tell ∈ tbG := tg_at 706 (by decide +kernel) rfl
theorem li_yX7_tell : Cond.instanceMethod yX7_tell ∈ tbG := tg_at 708 (by decide +kernel) rfl
theorem lk_yX7_tell : Cond.code yX7_tell cX7_tell 3 (some .int) ∈ tbG := tg_at 709 (by decide +kernel) rfl
theorem lm_RX7_113 : Cond.methodLink RX7 113 yX7_namesOf ∈ tbG := tg_at 710 (by decide +kernel) rfl
theorem li_yX7_namesOf : Cond.instanceMethod yX7_namesOf ∈ tbG := tg_at 712 (by decide +kernel) rfl
theorem lk_yX7_namesOf : Cond.code yX7_namesOf cX7_namesOf 3 (some .int) ∈ tbG := tg_at 713 (by decide +kernel) rfl
theorem lm_RL_47 : Cond.methodLink RL 47 yX7_as ∈ tbG := tg_at 714 (by decide +kernel) rfl
theorem li_yX7_as : Cond.instanceMethod yX7_as ∈ tbG := tg_at 715 (by decide +kernel) rfl
theorem ll_yX7_as : Cond.selects RX7 yX7_as yX7_as ∈ tbG := tg_at 716 (by decide +kernel) rfl
theorem lk_yX7_as : Cond.code yX7_as cX7_as 5 (some .int) ∈ tbG := tg_at 717 (by decide +kernel) rfl
theorem lm_RL_51 : Cond.methodLink RL 51 yX7_copy ∈ tbG := tg_at 718 (by decide +kernel) rfl
theorem li_yX7_copy : Cond.instanceMethod yX7_copy ∈ tbG := tg_at 719 (by decide +kernel) rfl
theorem ll_yX7_copy : Cond.selects RX7 yX7_copy yX7_copy ∈ tbG := tg_at 720 (by decide +kernel) rfl
theorem lk_yX7_copy : Cond.code yX7_copy cX7_copy 3 (some .int) ∈ tbG := tg_at 721 (by decide +kernel) rfl
theorem lm_RX7_126 : Cond.methodLink RX7 126 yX7_mayCopy ∈ tbG := tg_at 722 (by decide +kernel) rfl
theorem li_yX7_mayCopy : Cond.instanceMethod yX7_mayCopy ∈ tbG := tg_at 724 (by decide +kernel) rfl
theorem lk_yX7_mayCopy : Cond.code yX7_mayCopy cX7_mayCopy 4 (some .boolean) ∈ tbG := tg_at 725 (by decide +kernel) rfl
theorem lm_RX7_123 : Cond.methodLink RX7 123 yX7_ones ∈ tbG := tg_at 726 (by decide +kernel) rfl
theorem ls_yX7_ones : Cond.static yX7_ones ∈ tbG := tg_at 727 (by decide +kernel) rfl
theorem lk_yX7_ones : Cond.code yX7_ones cX7_ones 3 (some .int) ∈ tbG := tg_at 728 (by decide +kernel) rfl
theorem lm_RL_56 : Cond.methodLink RL 56 yX7_rename ∈ tbG := tg_at 729 (by decide +kernel) rfl
theorem li_yX7_rename : Cond.instanceMethod yX7_rename ∈ tbG := tg_at 730 (by decide +kernel) rfl
theorem ll_yX7_rename : Cond.selects RX7 yX7_rename yX7_rename ∈ tbG := tg_at 731 (by decide +kernel) rfl
theorem lk_yX7_rename : Cond.code yX7_rename cX7_rename 4 (some .int) ∈ tbG := tg_at 732 (by decide +kernel) rfl
theorem lm_RX7_130 : Cond.methodLink RX7 130 yX7_mayRename ∈ tbG := tg_at 733 (by decide +kernel) rfl
theorem li_yX7_mayRename : Cond.instanceMethod yX7_mayRename ∈ tbG := tg_at 735 (by decide +kernel) rfl
theorem lk_yX7_mayRename : Cond.code yX7_mayRename cX7_mayRename 5 (some .boolean) ∈ tbG := tg_at 736 (by decide +kernel) rfl
theorem lm_RL_60 : Cond.methodLink RL 60 yX7_point ∈ tbG := tg_at 737 (by decide +kernel) rfl
theorem li_yX7_point : Cond.instanceMethod yX7_point ∈ tbG := tg_at 738 (by decide +kernel) rfl
theorem ll_yX7_point : Cond.selects RX7 yX7_point yX7_point ∈ tbG := tg_at 739 (by decide +kernel) rfl
theorem lk_yX7_point : Cond.code yX7_point cX7_point 4 (some .int) ∈ tbG := tg_at 740 (by decide +kernel) rfl
theorem lm_RL_64 : Cond.methodLink RL 64 yX7_burn ∈ tbG := tg_at 741 (by decide +kernel) rfl
theorem li_yX7_burn : Cond.instanceMethod yX7_burn ∈ tbG := tg_at 742 (by decide +kernel) rfl
theorem ll_yX7_burn : Cond.selects RX7 yX7_burn yX7_burn ∈ tbG := tg_at 743 (by decide +kernel) rfl
theorem lk_yX7_burn : Cond.code yX7_burn cX7_burn 4 (some .int) ∈ tbG := tg_at 744 (by decide +kernel) rfl
theorem lm_RX7_144 : Cond.methodLink RX7 144 yX7_asItIs ∈ tbG := tg_at 745 (by decide +kernel) rfl
theorem li_yX7_asItIs : Cond.instanceMethod yX7_asItIs ∈ tbG := tg_at 747 (by decide +kernel) rfl
theorem lk_yX7_asItIs : Cond.code yX7_asItIs cX7_asItIs 2 none ∈ tbG := tg_at 748 (by decide +kernel) rfl
theorem lm_RX7_147 : Cond.methodLink RX7 147 yX7_pass ∈ tbG := tg_at 749 (by decide +kernel) rfl
theorem li_yX7_pass : Cond.instanceMethod yX7_pass ∈ tbG := tg_at 751 (by decide +kernel) rfl
theorem lk_yX7_pass : Cond.code yX7_pass cX7_pass 5 (some .int) ∈ tbG := tg_at 752 (by decide +kernel) rfl
theorem lm_RX7_137 : Cond.methodLink RX7 137 yX7_burnsOf ∈ tbG := tg_at 753 (by decide +kernel) rfl
theorem li_yX7_burnsOf : Cond.instanceMethod yX7_burnsOf ∈ tbG := tg_at 755 (by decide +kernel) rfl
theorem lk_yX7_burnsOf : Cond.code yX7_burnsOf cX7_burnsOf 6 (some .int) ∈ tbG := tg_at 756 (by decide +kernel) rfl
theorem lm_RX7_134 : Cond.methodLink RX7 134 yX7_isPointedAt ∈ tbG := tg_at 757 (by decide +kernel) rfl
theorem li_yX7_isPointedAt : Cond.instanceMethod yX7_isPointedAt ∈ tbG := tg_at 759 (by decide +kernel) rfl
theorem lk_yX7_isPointedAt : Cond.code yX7_isPointedAt cX7_isPointedAt 4 (some .boolean) ∈ tbG := tg_at 760 (by decide +kernel) rfl
theorem lm_RX7_140 : Cond.methodLink RX7 140 yX7_spread ∈ tbG := tg_at 761 (by decide +kernel) rfl
theorem li_yX7_spread : Cond.instanceMethod yX7_spread ∈ tbG := tg_at 763 (by decide +kernel) rfl
theorem lk_yX7_spread : Cond.code yX7_spread cX7_spread 3 none ∈ tbG := tg_at 764 (by decide +kernel) rfl
theorem lm_RL_68 : Cond.methodLink RL 68 yX7_odds ∈ tbG := tg_at 765 (by decide +kernel) rfl
theorem li_yX7_odds : Cond.instanceMethod yX7_odds ∈ tbG := tg_at 766 (by decide +kernel) rfl
theorem ll_yX7_odds : Cond.selects RX7 yX7_odds yX7_odds ∈ tbG := tg_at 767 (by decide +kernel) rfl
theorem lk_yX7_odds : Cond.code yX7_odds cX7_odds 4 (some .int) ∈ tbG := tg_at 768 (by decide +kernel) rfl
theorem lm_RX7_160 : Cond.methodLink RX7 160 yX7_oddsOf ∈ tbG := tg_at 769 (by decide +kernel) rfl
theorem li_yX7_oddsOf : Cond.instanceMethod yX7_oddsOf ∈ tbG := tg_at 771 (by decide +kernel) rfl
theorem lk_yX7_oddsOf : Cond.code yX7_oddsOf cX7_oddsOf 4 (some .int) ∈ tbG := tg_at 772 (by decide +kernel) rfl
theorem lm_RX7_153 : Cond.methodLink RX7 153 yX7_livesOf ∈ tbG := tg_at 773 (by decide +kernel) rfl
theorem li_yX7_livesOf : Cond.instanceMethod yX7_livesOf ∈ tbG := tg_at 775 (by decide +kernel) rfl
theorem lk_yX7_livesOf : Cond.code yX7_livesOf cX7_livesOf 9 (some .int) ∈ tbG := tg_at 776 (by decide +kernel) rfl
theorem lm_RX7_150 : Cond.methodLink RX7 150 yX7_power ∈ tbG := tg_at 777 (by decide +kernel) rfl
theorem ls_yX7_power : Cond.static yX7_power ∈ tbG := tg_at 778 (by decide +kernel) rfl
theorem lk_yX7_power : Cond.code yX7_power cX7_power 4 (some .int) ∈ tbG := tg_at 779 (by decide +kernel) rfl
theorem lm_RX7_156 : Cond.methodLink RX7 156 yX7_term ∈ tbG := tg_at 780 (by decide +kernel) rfl
theorem ls_yX7_term : Cond.static yX7_term ∈ tbG := tg_at 781 (by decide +kernel) rfl
theorem lk_yX7_term : Cond.code yX7_term cX7_term 6 (some .int) ∈ tbG := tg_at 782 (by decide +kernel) rfl
theorem lm_RL_72 : Cond.methodLink RL 72 yX7_where ∈ tbG := tg_at 783 (by decide +kernel) rfl
theorem li_yX7_where : Cond.instanceMethod yX7_where ∈ tbG := tg_at 784 (by decide +kernel) rfl
theorem ll_yX7_where : Cond.selects RX7 yX7_where yX7_where ∈ tbG := tg_at 785 (by decide +kernel) rfl
theorem lk_yX7_where : Cond.code yX7_where cX7_where 3 (some .int) ∈ tbG := tg_at 786 (by decide +kernel) rfl
theorem lm_RX7_163 : Cond.methodLink RX7 163 yX7_whereOf ∈ tbG := tg_at 787 (by decide +kernel) rfl
theorem li_yX7_whereOf : Cond.instanceMethod yX7_whereOf ∈ tbG := tg_at 789 (by decide +kernel) rfl
theorem lk_yX7_whereOf : Cond.code yX7_whereOf cX7_whereOf 7 (some .int) ∈ tbG := tg_at 790 (by decide +kernel) rfl
theorem lm_RL_76 : Cond.methodLink RL 76 yX7_sure ∈ tbG := tg_at 791 (by decide +kernel) rfl
theorem li_yX7_sure : Cond.instanceMethod yX7_sure ∈ tbG := tg_at 792 (by decide +kernel) rfl
theorem ll_yX7_sure : Cond.selects RX7 yX7_sure yX7_sure ∈ tbG := tg_at 793 (by decide +kernel) rfl
theorem lk_yX7_sure : Cond.code yX7_sure cX7_sure 6 (some .int) ∈ tbG := tg_at 794 (by decide +kernel) rfl
theorem lm_RX7_169 : Cond.methodLink RX7 169 yX7_isSure ∈ tbG := tg_at 795 (by decide +kernel) rfl
theorem li_yX7_isSure : Cond.instanceMethod yX7_isSure ∈ tbG := tg_at 797 (by decide +kernel) rfl
theorem lk_yX7_isSure : Cond.code yX7_isSure cX7_isSure 12 (some .boolean) ∈ tbG := tg_at 798 (by decide +kernel) rfl
theorem lm_RL_80 : Cond.methodLink RL 80 yX7_nowhere ∈ tbG := tg_at 799 (by decide +kernel) rfl
theorem li_yX7_nowhere : Cond.instanceMethod yX7_nowhere ∈ tbG := tg_at 800 (by decide +kernel) rfl
theorem ll_yX7_nowhere : Cond.selects RX7 yX7_nowhere yX7_nowhere ∈ tbG := tg_at 801 (by decide +kernel) rfl
theorem lk_yX7_nowhere : Cond.code yX7_nowhere cX7_nowhere 1 (some .int) ∈ tbG := tg_at 802 (by decide +kernel) rfl
theorem lm_RX7_173 : Cond.methodLink RX7 173 yX7_nowhereOf ∈ tbG := tg_at 803 (by decide +kernel) rfl
theorem li_yX7_nowhereOf : Cond.instanceMethod yX7_nowhereOf ∈ tbG := tg_at 805 (by decide +kernel) rfl
theorem lk_yX7_nowhereOf : Cond.code yX7_nowhereOf cX7_nowhereOf 4 (some .int) ∈ tbG := tg_at 806 (by decide +kernel) rfl
theorem lm_RL_84 : Cond.methodLink RL 84 yX7_moving ∈ tbG := tg_at 807 (by decide +kernel) rfl
theorem li_yX7_moving : Cond.instanceMethod yX7_moving ∈ tbG := tg_at 808 (by decide +kernel) rfl
theorem ll_yX7_moving : Cond.selects RX7 yX7_moving yX7_moving ∈ tbG := tg_at 809 (by decide +kernel) rfl
theorem lk_yX7_moving : Cond.code yX7_moving cX7_moving 3 (some .int) ∈ tbG := tg_at 810 (by decide +kernel) rfl
theorem lm_RX7_186 : Cond.methodLink RX7 186 yX7_isMovedBy ∈ tbG := tg_at 811 (by decide +kernel) rfl
theorem li_yX7_isMovedBy : Cond.instanceMethod yX7_isMovedBy ∈ tbG := tg_at 813 (by decide +kernel) rfl
theorem lk_yX7_isMovedBy : Cond.code yX7_isMovedBy cX7_isMovedBy 9 (some .boolean) ∈ tbG := tg_at 814 (by decide +kernel) rfl
theorem lm_RX7_176 : Cond.methodLink RX7 176 yX7_above ∈ tbG := tg_at 815 (by decide +kernel) rfl
theorem li_yX7_above : Cond.instanceMethod yX7_above ∈ tbG := tg_at 817 (by decide +kernel) rfl
theorem lk_yX7_above : Cond.code yX7_above cX7_above 5 (some .int) ∈ tbG := tg_at 818 (by decide +kernel) rfl
theorem lm_RX7_179 : Cond.methodLink RX7 179 yX7_renameNow ∈ tbG := tg_at 819 (by decide +kernel) rfl
theorem li_yX7_renameNow : Cond.instanceMethod yX7_renameNow ∈ tbG := tg_at 821 (by decide +kernel) rfl
theorem lk_yX7_renameNow : Cond.code yX7_renameNow cX7_renameNow 4 none ∈ tbG := tg_at 822 (by decide +kernel) rfl
theorem lm_RL_88 : Cond.methodLink RL 88 yX7_ashes ∈ tbG := tg_at 823 (by decide +kernel) rfl
theorem li_yX7_ashes : Cond.instanceMethod yX7_ashes ∈ tbG := tg_at 824 (by decide +kernel) rfl
theorem ll_yX7_ashes : Cond.selects RX7 yX7_ashes yX7_ashes ∈ tbG := tg_at 825 (by decide +kernel) rfl
theorem lk_yX7_ashes : Cond.code yX7_ashes cX7_ashes 2 (some .int) ∈ tbG := tg_at 826 (by decide +kernel) rfl
theorem lc_RX7_189 : Cond.constantLong RX7 189 (-1) ∈ tbG := tg_at 827 (by decide +kernel) rfl
theorem lm_RL_92 : Cond.methodLink RL 92 yX7_forget ∈ tbG := tg_at 828 (by decide +kernel) rfl
theorem li_yX7_forget : Cond.instanceMethod yX7_forget ∈ tbG := tg_at 829 (by decide +kernel) rfl
theorem ll_yX7_forget : Cond.selects RX7 yX7_forget yX7_forget ∈ tbG := tg_at 830 (by decide +kernel) rfl
theorem lk_yX7_forget : Cond.code yX7_forget cX7_forget 2 (some .int) ∈ tbG := tg_at 831 (by decide +kernel) rfl
theorem lm_RL_96 : Cond.methodLink RL 96 yX7_fits ∈ tbG := tg_at 832 (by decide +kernel) rfl
theorem li_yX7_fits : Cond.instanceMethod yX7_fits ∈ tbG := tg_at 833 (by decide +kernel) rfl
theorem ll_yX7_fits : Cond.selects RX7 yX7_fits yX7_fits ∈ tbG := tg_at 834 (by decide +kernel) rfl
theorem lk_yX7_fits : Cond.code yX7_fits cX7_fits 1 (some .int) ∈ tbG := tg_at 835 (by decide +kernel) rfl
theorem lm_RX7_197 : Cond.methodLink RX7 197 yX7_layFits ∈ tbG := tg_at 836 (by decide +kernel) rfl
theorem li_yX7_layFits : Cond.instanceMethod yX7_layFits ∈ tbG := tg_at 838 (by decide +kernel) rfl
theorem lk_yX7_layFits : Cond.code yX7_layFits cX7_layFits 5 (some .int) ∈ tbG := tg_at 839 (by decide +kernel) rfl
theorem lm_RX7_194 : Cond.methodLink RX7 194 yX7_isToldBy ∈ tbG := tg_at 840 (by decide +kernel) rfl
theorem li_yX7_isToldBy : Cond.instanceMethod yX7_isToldBy ∈ tbG := tg_at 842 (by decide +kernel) rfl
theorem lk_yX7_isToldBy : Cond.code yX7_isToldBy cX7_isToldBy 7 (some .boolean) ∈ tbG := tg_at 843 (by decide +kernel) rfl
theorem lm_RX7_191 : Cond.methodLink RX7 191 yX7_livesNow ∈ tbG := tg_at 844 (by decide +kernel) rfl
theorem li_yX7_livesNow : Cond.instanceMethod yX7_livesNow ∈ tbG := tg_at 846 (by decide +kernel) rfl
theorem lk_yX7_livesNow : Cond.code yX7_livesNow cX7_livesNow 3 (some .int) ∈ tbG := tg_at 847 (by decide +kernel) rfl
theorem lm_RL_100 : Cond.methodLink RL 100 yX7_burnt ∈ tbG := tg_at 848 (by decide +kernel) rfl
theorem li_yX7_burnt : Cond.instanceMethod yX7_burnt ∈ tbG := tg_at 849 (by decide +kernel) rfl
theorem ll_yX7_burnt : Cond.selects RX7 yX7_burnt yX7_burnt ∈ tbG := tg_at 850 (by decide +kernel) rfl
theorem lk_yX7_burnt : Cond.code yX7_burnt cX7_burnt 4 (some .int) ∈ tbG := tg_at 851 (by decide +kernel) rfl
theorem lm_RL_104 : Cond.methodLink RL 104 yX7_years ∈ tbG := tg_at 852 (by decide +kernel) rfl
theorem li_yX7_years : Cond.instanceMethod yX7_years ∈ tbG := tg_at 853 (by decide +kernel) rfl
theorem ll_yX7_years : Cond.selects RX7 yX7_years yX7_years ∈ tbG := tg_at 854 (by decide +kernel) rfl
theorem lk_yX7_years : Cond.code yX7_years cX7_years 6 (some .int) ∈ tbG := tg_at 855 (by decide +kernel) rfl
theorem lc_RX7_210 : Cond.constantLong RX7 210 (60) ∈ tbG := tg_at 856 (by decide +kernel) rfl
theorem lc_RX7_212 : Cond.constantLong RX7 212 (2) ∈ tbG := tg_at 857 (by decide +kernel) rfl
theorem lm_RX7_214 : Cond.methodLink RX7 214 yX7_draw ∈ tbG := tg_at 858 (by decide +kernel) rfl
theorem li_yX7_draw : Cond.instanceMethod yX7_draw ∈ tbG := tg_at 860 (by decide +kernel) rfl
theorem lk_yX7_draw : Cond.code yX7_draw cX7_draw 2 (some .int) ∈ tbG := tg_at 861 (by decide +kernel) rfl
theorem lc_RX7_200 : Cond.constantLong RX7 200 (1103515245) ∈ tbG := tg_at 862 (by decide +kernel) rfl
theorem lc_RX7_205 : Cond.constantLong RX7 205 (12345) ∈ tbG := tg_at 863 (by decide +kernel) rfl
theorem lc_RX7_207 : Cond.constantLong RX7 207 (2147483647) ∈ tbG := tg_at 864 (by decide +kernel) rfl
theorem lc_RX7_209 : Cond.constant RX7 209 (65536) ∈ tbG := tg_at 865 (by decide +kernel) rfl
theorem lm_RX7_217 : Cond.methodLink RX7 217 yX7_lotOf ∈ tbG := tg_at 866 (by decide +kernel) rfl
theorem li_yX7_lotOf : Cond.instanceMethod yX7_lotOf ∈ tbG := tg_at 868 (by decide +kernel) rfl
theorem lk_yX7_lotOf : Cond.code yX7_lotOf cX7_lotOf 4 (some .int) ∈ tbG := tg_at 869 (by decide +kernel) rfl
theorem lm_RL_108 : Cond.methodLink RL 108 yX7_image ∈ tbG := tg_at 870 (by decide +kernel) rfl
theorem li_yX7_image : Cond.instanceMethod yX7_image ∈ tbG := tg_at 871 (by decide +kernel) rfl
theorem ll_yX7_image : Cond.selects RX7 yX7_image yX7_image ∈ tbG := tg_at 872 (by decide +kernel) rfl
theorem lk_yX7_image : Cond.code yX7_image cX7_image 1 (some .int) ∈ tbG := tg_at 873 (by decide +kernel) rfl
theorem lm_RX7_220 : Cond.methodLink RX7 220 yX7_copyTo ∈ tbG := tg_at 874 (by decide +kernel) rfl
theorem ls_yX7_copyTo : Cond.static yX7_copyTo ∈ tbG := tg_at 875 (by decide +kernel) rfl
theorem lk_yX7_copyTo : Cond.code yX7_copyTo cX7_copyTo 3 none ∈ tbG := tg_at 876 (by decide +kernel) rfl
theorem lm_RL_112 : Cond.methodLink RL 112 yX7_restore ∈ tbG := tg_at 877 (by decide +kernel) rfl
theorem li_yX7_restore : Cond.instanceMethod yX7_restore ∈ tbG := tg_at 878 (by decide +kernel) rfl
theorem ll_yX7_restore : Cond.selects RX7 yX7_restore yX7_restore ∈ tbG := tg_at 879 (by decide +kernel) rfl
theorem lk_yX7_restore : Cond.code yX7_restore cX7_restore 1 (some .int) ∈ tbG := tg_at 880 (by decide +kernel) rfl
theorem lm_RL_116 : Cond.methodLink RL 116 yX7_count ∈ tbG := tg_at 881 (by decide +kernel) rfl
theorem li_yX7_count : Cond.instanceMethod yX7_count ∈ tbG := tg_at 882 (by decide +kernel) rfl
theorem ll_yX7_count : Cond.selects RX7 yX7_count yX7_count ∈ tbG := tg_at 883 (by decide +kernel) rfl
theorem lk_yX7_count : Cond.code yX7_count cX7_count 2 (some .int) ∈ tbG := tg_at 884 (by decide +kernel) rfl
theorem lm_RX7_233 : Cond.methodLink RX7 233 yX7_countOf ∈ tbG := tg_at 885 (by decide +kernel) rfl
theorem li_yX7_countOf : Cond.instanceMethod yX7_countOf ∈ tbG := tg_at 887 (by decide +kernel) rfl
theorem lk_yX7_countOf : Cond.code yX7_countOf cX7_countOf 5 (some .int) ∈ tbG := tg_at 888 (by decide +kernel) rfl
theorem lm_RL_121 : Cond.methodLink RL 121 yX7_digest ∈ tbG := tg_at 889 (by decide +kernel) rfl
theorem li_yX7_digest : Cond.instanceMethod yX7_digest ∈ tbG := tg_at 890 (by decide +kernel) rfl
theorem ll_yX7_digest : Cond.selects RX7 yX7_digest yX7_digest ∈ tbG := tg_at 891 (by decide +kernel) rfl
theorem lk_yX7_digest : Cond.code yX7_digest cX7_digest 2 (some .long) ∈ tbG := tg_at 892 (by decide +kernel) rfl
theorem lc_RX7_246 : Cond.constantLong RX7 246 (769) ∈ tbG := tg_at 893 (by decide +kernel) rfl
theorem lm_RX7_242 : Cond.methodLink RX7 242 yX7_say ∈ tbG := tg_at 894 (by decide +kernel) rfl
theorem li_yX7_say : Cond.instanceMethod yX7_say ∈ tbG := tg_at 896 (by decide +kernel) rfl
theorem lk_yX7_say : Cond.code yX7_say cX7_say 3 none ∈ tbG := tg_at 897 (by decide +kernel) rfl
theorem lc_RX7_236 : Cond.constantLong RX7 236 (31) ∈ tbG := tg_at 898 (by decide +kernel) rfl
theorem lm_RX7_248 : Cond.methodLink RX7 248 yX7_sayFile ∈ tbG := tg_at 899 (by decide +kernel) rfl
theorem li_yX7_sayFile : Cond.instanceMethod yX7_sayFile ∈ tbG := tg_at 901 (by decide +kernel) rfl
theorem lk_yX7_sayFile : Cond.code yX7_sayFile cX7_sayFile 3 none ∈ tbG := tg_at 902 (by decide +kernel) rfl
theorem ll_yX4_mayStand : Cond.selects RX4 yX4_mayStand yX4_mayStand ∈ tbG := tg_sel 0 (by decide +kernel) rfl
theorem ll_yX0_isKept : Cond.selects RX0 yX0_isKept yX0_isKept ∈ tbG := tg_sel 1 (by decide +kernel) rfl
theorem ll_yX0_isPointedTo : Cond.selects RX0 yX0_isPointedTo yX0_isPointedTo ∈ tbG := tg_sel 2 (by decide +kernel) rfl
theorem ll_yX0_grown : Cond.selects RX0 yX0_grown yX0_grown ∈ tbG := tg_sel 3 (by decide +kernel) rfl
theorem ll_yX1_waysToLive : Cond.selects RX1 yX1_waysToLive yX1_waysToLive ∈ tbG := tg_sel 4 (by decide +kernel) rfl
theorem ll_yX1_isLeftForSure : Cond.selects RX1 yX1_isLeftForSure yX1_isLeftForSure ∈ tbG := tg_sel 5 (by decide +kernel) rfl
theorem ll_yX1_rowsFrom : Cond.selects RX1 yX1_rowsFrom yX1_rowsFrom ∈ tbG := tg_sel 6 (by decide +kernel) rfl
theorem ll_yX1_isAsTold : Cond.selects RX1 yX1_isAsTold yX1_isAsTold ∈ tbG := tg_sel 7 (by decide +kernel) rfl
theorem ll_yX1_nothingToldFrom : Cond.selects RX1 yX1_nothingToldFrom yX1_nothingToldFrom ∈ tbG := tg_sel 8 (by decide +kernel) rfl
theorem ll_yX6_mixedWithFile : Cond.selects RX6 yX6_mixedWithFile yX6_mixedWithFile ∈ tbG := tg_sel 9 (by decide +kernel) rfl
theorem ll_yX7_faultOf : Cond.selects RX7 yX7_faultOf yX7_faultOf ∈ tbG := tg_sel 10 (by decide +kernel) rfl
theorem ll_yX7_tellUnder : Cond.selects RX7 yX7_tellUnder yX7_tellUnder ∈ tbG := tg_sel 11 (by decide +kernel) rfl
theorem ll_yX7_fullness : Cond.selects RX7 yX7_fullness yX7_fullness ∈ tbG := tg_sel 12 (by decide +kernel) rfl
theorem ll_yX7_lacks : Cond.selects RX7 yX7_lacks yX7_lacks ∈ tbG := tg_sel 13 (by decide +kernel) rfl
theorem ll_yX7_isFile : Cond.selects RX7 yX7_isFile yX7_isFile ∈ tbG := tg_sel 14 (by decide +kernel) rfl
theorem ll_yX7_tell : Cond.selects RX7 yX7_tell yX7_tell ∈ tbG := tg_sel 15 (by decide +kernel) rfl
theorem ll_yX7_namesOf : Cond.selects RX7 yX7_namesOf yX7_namesOf ∈ tbG := tg_sel 16 (by decide +kernel) rfl
theorem ll_yX7_mayCopy : Cond.selects RX7 yX7_mayCopy yX7_mayCopy ∈ tbG := tg_sel 17 (by decide +kernel) rfl
theorem ll_yX7_mayRename : Cond.selects RX7 yX7_mayRename yX7_mayRename ∈ tbG := tg_sel 18 (by decide +kernel) rfl
theorem ll_yX7_asItIs : Cond.selects RX7 yX7_asItIs yX7_asItIs ∈ tbG := tg_sel 19 (by decide +kernel) rfl
theorem ll_yX7_pass : Cond.selects RX7 yX7_pass yX7_pass ∈ tbG := tg_sel 20 (by decide +kernel) rfl
theorem ll_yX7_burnsOf : Cond.selects RX7 yX7_burnsOf yX7_burnsOf ∈ tbG := tg_sel 21 (by decide +kernel) rfl
theorem ll_yX7_isPointedAt : Cond.selects RX7 yX7_isPointedAt yX7_isPointedAt ∈ tbG := tg_sel 22 (by decide +kernel) rfl
theorem ll_yX7_spread : Cond.selects RX7 yX7_spread yX7_spread ∈ tbG := tg_sel 23 (by decide +kernel) rfl
theorem ll_yX7_oddsOf : Cond.selects RX7 yX7_oddsOf yX7_oddsOf ∈ tbG := tg_sel 24 (by decide +kernel) rfl
theorem ll_yX7_livesOf : Cond.selects RX7 yX7_livesOf yX7_livesOf ∈ tbG := tg_sel 25 (by decide +kernel) rfl
theorem ll_yX7_whereOf : Cond.selects RX7 yX7_whereOf yX7_whereOf ∈ tbG := tg_sel 26 (by decide +kernel) rfl
theorem ll_yX7_isSure : Cond.selects RX7 yX7_isSure yX7_isSure ∈ tbG := tg_sel 27 (by decide +kernel) rfl
theorem ll_yX7_nowhereOf : Cond.selects RX7 yX7_nowhereOf yX7_nowhereOf ∈ tbG := tg_sel 28 (by decide +kernel) rfl
theorem ll_yX7_isMovedBy : Cond.selects RX7 yX7_isMovedBy yX7_isMovedBy ∈ tbG := tg_sel 29 (by decide +kernel) rfl
theorem ll_yX7_above : Cond.selects RX7 yX7_above yX7_above ∈ tbG := tg_sel 30 (by decide +kernel) rfl
theorem ll_yX7_renameNow : Cond.selects RX7 yX7_renameNow yX7_renameNow ∈ tbG := tg_sel 31 (by decide +kernel) rfl
theorem ll_yX7_layFits : Cond.selects RX7 yX7_layFits yX7_layFits ∈ tbG := tg_sel 32 (by decide +kernel) rfl
theorem ll_yX7_isToldBy : Cond.selects RX7 yX7_isToldBy yX7_isToldBy ∈ tbG := tg_sel 33 (by decide +kernel) rfl
theorem ll_yX7_livesNow : Cond.selects RX7 yX7_livesNow yX7_livesNow ∈ tbG := tg_sel 34 (by decide +kernel) rfl
theorem ll_yX7_draw : Cond.selects RX7 yX7_draw yX7_draw ∈ tbG := tg_sel 35 (by decide +kernel) rfl
theorem ll_yX7_lotOf : Cond.selects RX7 yX7_lotOf yX7_lotOf ∈ tbG := tg_sel 36 (by decide +kernel) rfl
theorem ll_yX7_countOf : Cond.selects RX7 yX7_countOf yX7_countOf ∈ tbG := tg_sel 37 (by decide +kernel) rfl
theorem ll_yX7_say : Cond.selects RX7 yX7_say yX7_say ∈ tbG := tg_sel 38 (by decide +kernel) rfl
theorem ll_yX7_sayFile : Cond.selects RX7 yX7_sayFile yX7_sayFile ∈ tbG := tg_sel 39 (by decide +kernel) rfl
theorem in_X0 : ∀ w ∈ wsX00, w ∈ tbG := tg_all (by decide +kernel)
theorem in_X1 : ∀ w ∈ wsX10, w ∈ tbG := tg_all (by decide +kernel)
theorem in_X3 : ∀ w ∈ wsX30, w ∈ tbG := tg_all (by decide +kernel)
theorem in_X4 : ∀ w ∈ wsX40, w ∈ tbG := tg_all (by decide +kernel)
theorem in_X6 : ∀ w ∈ wsX60, w ∈ tbG := tg_all (by decide +kernel)
theorem in_X7 : ∀ w ∈ wsX70, w ∈ tbG := tg_all (by decide +kernel)
end
section
/-! THE CLAIM OUT OF ONE WALK OF THE LAW'S BODY. Your part is whole_start (and what it stands on); all else here is the same for every law, but numbers. -/
def R_law : String := "BurntLettersLaw"
def lw_P (b : Addr) (xs : List Int32) (args : Array Value) (s : State) : Prop := args = #[.ref b] ∧ s.IntsAt b xs ∧ xs.length ≤ 256 ∧ (Jvm.Cond.and given_1 narrow_1).before args s = true
def lw_Q (_ : Array Value) (s : State) (o : Outcome) (t : State) : Prop := o = .returned (some (.int 1)) ∧ Framed s o t [] 600000 7302249
def lw_Z (below : List Frame) (a : Array Value) (s : State) : State → Prop := fun t => ∃ o, t.status = .running ∧ Ended t below o ∧ lw_Q a s o t
/-- the law's own end, with 1 on the stack, nothing written that was there before, its room as the claim has it -/
theorem lw_ret {p : Program} {l : Launch} {e : Env} {s : State} {m : MethodId} {below : List Frame} {meth : Method} {c : Code} {b : Nat} (hx : p.tables.exec = Jvm.exec) (hb : c.code = code) (hr : meth.sig.returnType = ret) (hlocks : meth.locks = false) {pc : Nat} {H : Heap} {ls : Array Slot} (hdg : decode code pc = .ok (.ireturn, 1)) : W p l e room_1 s m #[Value.ref b] below meth c H [] 600000 7302249 (lw_Z below #[Value.ref b] s) (F0 m pc ls [.int 1]) := by
  intro T hT X
  obtain ⟨fs, hret, hrun, hended, hW, hframe⟩ := X.leave (v := some (.int 1)) (hlocks := hlocks) (fun h => by rw [hr] at h; cases h)
  have hmeth' : T.vm.method? m = some meth := X.method'
  refine ⟨T.setFrames fs, ?_, .returned (some (.int 1)), hrun, hended, rfl, ⟨_, rfl⟩, hW, hframe⟩
  jvm_step X.here [X.here.top, hx, hb, hdg, hmeth', hr, ret, narrow_b1]
  (try refine ⟨rfl, ?_⟩); (try refine ⟨rfl, ?_⟩)
  first | (intro acts; rw [hret _ acts rfl rfl rfl]) | rw [hret _ _ rfl rfl rfl]
  exact Steps.refl _
/-- what holds at the law's entry: the machine, the code, the tables' words (any of lw_tbl by 'hts w (by decide +kernel)'), the script of L ints xs at the cell b, what the Statement gives of the start (any of its parts by flat_of_before) -/
def lw_At (p : Program) (s : State) (m : MethodId) (meth : Method) (c : Code) (b L : Nat) (xs : Nat → Int32) : Prop :=
  p.tables.exec = Jvm.exec ∧ c.code = code ∧ meth.sig.returnType = ret ∧ c.maxLocals = 4 ∧ s.vm.findClass R_law = some m.cls ∧ (∀ w ∈ lw_tbl, w.before #[Value.ref b] s = true) ∧ va_X b L xs s s.heap ∧ b < s.heap.size ∧ meth.locks = false ∧ (Jvm.Cond.and given_1 narrow_1).before #[Value.ref b] s = true
-- ===== YOUR PART BEGINS =====
/-- YOUR PART: from the entry, for every script of at most 256 ints, the law comes to its end with true -/
theorem whole_start {p : Program} {e : Env} {s : State} {m : MethodId} {below : List Frame} {meth : Method} {c : Code} (l : Launch) {b L : Nat} {xs : Nat → Int32} (hL : L ≤ 256) (C0 : lw_At p s m meth c b L xs) : W p l e room_1 s m #[Value.ref b] below meth c s.heap [] 0 0 (lw_Z below #[Value.ref b] s) (entryFrame m ([Value.ref b] : List Value).toArray 4) := by
  sorry
-- ===== YOUR PART ENDS =====
set_option maxHeartbeats 4000000 in
theorem lw_walk (l : Launch) (b : Addr) (xs : List Int32) : MetFree l x (headSpec (Jvm.Cond.code x code maxLocals ret :: tables_1) room_1) (lw_P b xs) (fun _ _ _ _ _ => True) lw_Q := by
  refine MetFree.of_bodyS (code := code) (maxLocals := maxLocals) (ret := ret) (by decide) ?_ ?_
  · intro args s m h hn
    obtain ⟨meth, c, h1, h2, h3, h4, h5, h6, -, -⟩ := Cond.code_spec hn (atoms_spec (ws := Jvm.Cond.code x code maxLocals ret :: tables_1) h _ List.mem_cons_self)
    exact ⟨meth, c, h1, h2, h3, h4, h5, h6⟩
  · intro p e s m args below meth c s₁ B hml0 hP _
    obtain ⟨rfl, hx, hbd, hgv⟩ := hP
    obtain ⟨scr, harrAt, hlist, hof, hsmall⟩ := hx
    obtain ⟨hcb, hkn, -, -⟩ := State.arrayAt?_spec harrAt
    have hown : s.vm.findClass R_law = some m.cls := findClass_of_methodNamed B.named
    have hts0 : ∀ c ∈ (Jvm.Cond.code x code maxLocals ret :: tables_1), c.before #[Value.ref b] s = true := atoms_spec (ws := Jvm.Cond.code x code maxLocals ret :: tables_1) B.pre
    have hts : ∀ w ∈ lw_tbl, w.before #[Value.ref b] s = true := k2_hts_sels lw_privs (fun w hw => hts0 w (List.mem_cons_of_mem _ hw)) lw_privs_ok
    have hml : c.maxLocals = 4 := B.maxLocals_eq (hts0 _ List.mem_cons_self)
    have X₀ : Stand p l e room_1 s m #[Value.ref b] below meth c s₁ [] 0 0 := Stand.of_body B
    have hh0 : s₁.heap = s.heap := by rw [B.state]; rfl
    have hsz : scr.slots.size = xs.length := by rw [← Array.length_toList, hlist, List.length_map]
    have hval : ∀ j : Nat, j < xs.length → scr.slots[j]? = some (.int (xs.getD j 0)) := fun j hj => by
      rw [← Array.getElem?_toList, hlist]
      simp [hj]
    have hbl : b < s.heap.size := (Array.getElem?_eq_some_iff.mp hcb).1
    have hX : va_X b xs.length (fun j => xs.getD j 0) s s.heap := ⟨scr, hcb, hof, hkn, hsz, hval⟩
    have K : W p l e room_1 s m #[Value.ref b] below meth c s₁.heap [] 0 0 (lw_Z below #[Value.ref b] s) (entryFrame m ([Value.ref b] : List Value).toArray 4) := by
      rw [hh0]
      exact whole_start l hbd ⟨B.exec, B.bytes, B.returns, hml, hown, hts, hX, hbl, B.notSynchronized, hgv⟩
    obtain ⟨t, a1, o, b1, b2, b3⟩ := K s₁ rfl X₀
    exact ⟨t, o, a1, b1, b2, b3⟩
theorem lw_pre_spec {args : Array Value} {s : State} (h : (Jvm.Cond.and given_1 narrow_1).before args s = true) (hr : rest_1_c.before args s = true) : ∃ (b : Addr) (xs : List Int32), lw_P b xs args s := by
  have hs := flat_of_before _ h
  have hq := flat_of_before _ hr
  have hc : (Cond.count 1).before args s = true := hs _ (by decide +kernel)
  have harr : (Cond.arrayOf (.arg 0) .int).before args s = true := hs _ (by decide +kernel)
  have hle : (Cond.le (.length (.arg 0)) (.int 256)).before args s = true := hs _ (by decide +kernel)
  have hlen : (Cond.isInt (.length (.arg 0))).before args s = true := hq _ (by decide +kernel)
  have hall : (Cond.all (.arg 0) (.isInt (.elem (.arg 0) (.index 0)))).before args s = true := hq _ (by decide +kernel)
  obtain ⟨b, xs, hb, hx⟩ := State.ints_of_pre rfl harr hlen hall
  have hsm : xs.length < 2 ^ 31 := hx.choose_spec.2.2.2
  have hev : (Term.length (.arg 0)).eval args s none [] s = some (.int xs.length.toInt32) := hx.length_eval hb
  have hv := Cond.le_ints hev (show (Term.int 256).eval args s none [] s = some (.int 256) from rfl)
  have hd : xs.length.toInt32 ≤ 256 := by
    simpa [Cond.before, Cond.holds, hv] using hle
  have hN : xs.length ≤ 256 := (Int32.ofNat_le_ofNat hsm (by decide)).mp (show Int32.ofNat xs.length ≤ Int32.ofNat 256 from hd)
  exact ⟨b, xs, Cond.one_arg hc (show args[0]? = some (.ref b) from hb), hx, hN, h⟩
theorem lw_comes (l : Launch) : Comes l x (Jvm.Cond.code x code maxLocals ret :: tables_1) room_1 (fun tb e args s => Calls_1 tb e args s ∧ rest_1 tb e args s ∧ Pre_1 tb e args s)
    (fun _ _ args s o t => lw_Q args s o t) := by
  intro p e ha hc hk s m args below hf hfit hheap happ hpre
  obtain ⟨b, xs, hP⟩ := lw_pre_spec hpre.2.2 hpre.2.1
  obtain ⟨k, o, h1, h2, h3, hQ⟩ := lw_walk l b xs p e ha hc hk s m args below hf ((Spec.applies_iff_loose hf).mp happ).1 hP trivial
  exact ⟨k, o, h1, h2, h3, hQ⟩
theorem lw_frame {s t : State} {o : Outcome} {args : Array Value} (h : Framed s o t [] 600000 7302249) :
    Framed s o t (fieldLocs frame_1_writes args s ++ arrayLocs frame_1_arrays args s ++ staticLocs frame_1_statics s) 600000 7302249 := h
theorem lw_limb (L : Cond) (hL : ∀ (args : Array Value) (s t : State), L.after args s (.returned (some (.int 1))) t = true) :
    ArmFor flags0 classFile x code maxLocals ret World_1 tables_1 room_1 Calls_1 rest_1 Pre_1
      (fun tb e a s o t => postC L tb e a s o t ∧ Framed s o t (fieldLocs frame_1_writes a s ++ arrayLocs frame_1_arrays a s ++ staticLocs frame_1_statics s) 600000 7302249) := by
  intro l _ _ _ p e ha hc hk s m args below hf hfit hheap happ hpre
  obtain ⟨k, o, h1, h2, h3, rfl, hF⟩ := lw_comes l p e ha hc hk s m args below hf hfit hheap happ hpre
  exact ⟨k, _, h1, h2, h3, hL args s _, lw_frame hF⟩
theorem i_vc : Claimed_1_1 ∧ Claimed_1_2 := ⟨lw_limb limb_1_1 (fun args s t => by simp [limb_1_1, Cond.after, Cond.holds, Cond.value]), lw_limb limb_1_2 (fun args s t => Cond.after_iff.mpr (by
  first | (rw [show limb_1_2 = Cond.eq .result (.int 1) from rfl, Cond.eq_ints (x := 1) (y := 1) rfl rfl]; simp; done) | (simp [limb_1_2, Cond.value, Term.eval]; done)))⟩
end
