section
-- ===== PART A: goes FIRST, ahead of the names: the tables' words, and 'selects' of the private methods out of them =====
/-- a private method of a class that the tables say can be made, by its rows of tables_1 -/
def lw_okq (q : MethodName × Nat) : Prop := (q.1.cls ≠ "java/lang/invoke/MethodHandle" ∧ q.1.cls ≠ "java/lang/invoke/VarHandle") ∧ Cond.instantiable q.1.cls q.2 ∈ tables_1 ∧ Cond.privateMethod q.1 ∈ tables_1 ∧ Cond.instanceMethod q.1 ∈ tables_1
theorem lw_p0 : lw_okq (⟨"EmptyLegs$Law", "readClause", "(LEmptyLegs$Tape;I)I"⟩, 7) := ⟨⟨by decide +kernel, by decide +kernel⟩, List.mem_of_getElem? (i := 37) (by decide +kernel), List.mem_of_getElem? (i := 340) (by decide +kernel), List.mem_of_getElem? (i := 341) (by decide +kernel)⟩
theorem lw_p1 : lw_okq (⟨"EmptyLegs$Law", "readNumber", "(LEmptyLegs$Tape;I)I"⟩, 7) := ⟨⟨by decide +kernel, by decide +kernel⟩, List.mem_of_getElem? (i := 37) (by decide +kernel), List.mem_of_getElem? (i := 348) (by decide +kernel), List.mem_of_getElem? (i := 349) (by decide +kernel)⟩
theorem lw_p2 : lw_okq (⟨"EmptyLegs$Flights", "lineUp", "(II)V"⟩, 8) := ⟨⟨by decide +kernel, by decide +kernel⟩, List.mem_of_getElem? (i := 97) (by decide +kernel), List.mem_of_getElem? (i := 416) (by decide +kernel), List.mem_of_getElem? (i := 417) (by decide +kernel)⟩
theorem lw_p3 : lw_okq (⟨"EmptyLegs$Offers", "isStanding", "(I)Z"⟩, 8) := ⟨⟨by decide +kernel, by decide +kernel⟩, List.mem_of_getElem? (i := 251) (by decide +kernel), List.mem_of_getElem? (i := 488) (by decide +kernel), List.mem_of_getElem? (i := 489) (by decide +kernel)⟩
theorem lw_p4 : lw_okq (⟨"EmptyLegs$Offers", "has", "(I)Z"⟩, 8) := ⟨⟨by decide +kernel, by decide +kernel⟩, List.mem_of_getElem? (i := 251) (by decide +kernel), List.mem_of_getElem? (i := 496) (by decide +kernel), List.mem_of_getElem? (i := 497) (by decide +kernel)⟩
theorem lw_p5 : lw_okq (⟨"EmptyLegs$Planner", "lineUp", "()V"⟩, 13) := ⟨⟨by decide +kernel, by decide +kernel⟩, List.mem_of_getElem? (i := 167) (by decide +kernel), List.mem_of_getElem? (i := 525) (by decide +kernel), List.mem_of_getElem? (i := 526) (by decide +kernel)⟩
theorem lw_p6 : lw_okq (⟨"EmptyLegs$Planner", "weighChains", "(I)V"⟩, 13) := ⟨⟨by decide +kernel, by decide +kernel⟩, List.mem_of_getElem? (i := 167) (by decide +kernel), List.mem_of_getElem? (i := 538) (by decide +kernel), List.mem_of_getElem? (i := 539) (by decide +kernel)⟩
theorem lw_p7 : lw_okq (⟨"EmptyLegs$Planner", "keep", "(IJ)V"⟩, 13) := ⟨⟨by decide +kernel, by decide +kernel⟩, List.mem_of_getElem? (i := 167) (by decide +kernel), List.mem_of_getElem? (i := 559) (by decide +kernel), List.mem_of_getElem? (i := 560) (by decide +kernel)⟩
theorem lw_p8 : lw_okq (⟨"EmptyLegs$Planner", "ownCost", "(II)J"⟩, 13) := ⟨⟨by decide +kernel, by decide +kernel⟩, List.mem_of_getElem? (i := 167) (by decide +kernel), List.mem_of_getElem? (i := 575) (by decide +kernel), List.mem_of_getElem? (i := 576) (by decide +kernel)⟩
theorem lw_p9 : lw_okq (⟨"EmptyLegs$Planner", "costBehind", "(IIJ)J"⟩, 13) := ⟨⟨by decide +kernel, by decide +kernel⟩, List.mem_of_getElem? (i := 167) (by decide +kernel), List.mem_of_getElem? (i := 580) (by decide +kernel), List.mem_of_getElem? (i := 581) (by decide +kernel)⟩
theorem lw_p10 : lw_okq (⟨"EmptyLegs$Chain", "goes", "(III)Z"⟩, 10) := ⟨⟨by decide +kernel, by decide +kernel⟩, List.mem_of_getElem? (i := 169) (by decide +kernel), List.mem_of_getElem? (i := 596) (by decide +kernel), List.mem_of_getElem? (i := 597) (by decide +kernel)⟩
theorem lw_p11 : lw_okq (⟨"EmptyLegs$Planner", "addWeighed", "()V"⟩, 13) := ⟨⟨by decide +kernel, by decide +kernel⟩, List.mem_of_getElem? (i := 167) (by decide +kernel), List.mem_of_getElem? (i := 609) (by decide +kernel), List.mem_of_getElem? (i := 610) (by decide +kernel)⟩
theorem lw_p12 : lw_okq (⟨"EmptyLegs$Planner", "leastOf", "(I)J"⟩, 13) := ⟨⟨by decide +kernel, by decide +kernel⟩, List.mem_of_getElem? (i := 167) (by decide +kernel), List.mem_of_getElem? (i := 613) (by decide +kernel), List.mem_of_getElem? (i := 614) (by decide +kernel)⟩
theorem lw_p13 : lw_okq (⟨"EmptyLegs$Planner", "weighUnflown", "()V"⟩, 13) := ⟨⟨by decide +kernel, by decide +kernel⟩, List.mem_of_getElem? (i := 167) (by decide +kernel), List.mem_of_getElem? (i := 620) (by decide +kernel), List.mem_of_getElem? (i := 621) (by decide +kernel)⟩
theorem lw_p14 : lw_okq (⟨"EmptyLegs$Planner", "enter", "(J)V"⟩, 13) := ⟨⟨by decide +kernel, by decide +kernel⟩, List.mem_of_getElem? (i := 167) (by decide +kernel), List.mem_of_getElem? (i := 625) (by decide +kernel), List.mem_of_getElem? (i := 626) (by decide +kernel)⟩
theorem lw_p15 : lw_okq (⟨"EmptyLegs", "flownMove", "(II)I"⟩, 10) := ⟨⟨by decide +kernel, by decide +kernel⟩, List.mem_of_getElem? (i := 15) (by decide +kernel), List.mem_of_getElem? (i := 661) (by decide +kernel), List.mem_of_getElem? (i := 662) (by decide +kernel)⟩
def lw_privs_1 : List (MethodName × Nat) := [(⟨"EmptyLegs$Law", "readClause", "(LEmptyLegs$Tape;I)I"⟩, 7), (⟨"EmptyLegs$Law", "readNumber", "(LEmptyLegs$Tape;I)I"⟩, 7), (⟨"EmptyLegs$Flights", "lineUp", "(II)V"⟩, 8), (⟨"EmptyLegs$Offers", "isStanding", "(I)Z"⟩, 8), (⟨"EmptyLegs$Offers", "has", "(I)Z"⟩, 8), (⟨"EmptyLegs$Planner", "lineUp", "()V"⟩, 13), (⟨"EmptyLegs$Planner", "weighChains", "(I)V"⟩, 13), (⟨"EmptyLegs$Planner", "keep", "(IJ)V"⟩, 13), (⟨"EmptyLegs$Planner", "ownCost", "(II)J"⟩, 13), (⟨"EmptyLegs$Planner", "costBehind", "(IIJ)J"⟩, 13), (⟨"EmptyLegs$Chain", "goes", "(III)Z"⟩, 10), (⟨"EmptyLegs$Planner", "addWeighed", "()V"⟩, 13), (⟨"EmptyLegs$Planner", "leastOf", "(I)J"⟩, 13), (⟨"EmptyLegs$Planner", "weighUnflown", "()V"⟩, 13), (⟨"EmptyLegs$Planner", "enter", "(J)V"⟩, 13), (⟨"EmptyLegs", "flownMove", "(II)I"⟩, 10)]
theorem lw_r1 : ∀ q ∈ lw_privs_1, lw_okq q := List.forall_mem_cons.mpr ⟨lw_p0, List.forall_mem_cons.mpr ⟨lw_p1, List.forall_mem_cons.mpr ⟨lw_p2, List.forall_mem_cons.mpr ⟨lw_p3, List.forall_mem_cons.mpr ⟨lw_p4, List.forall_mem_cons.mpr ⟨lw_p5, List.forall_mem_cons.mpr ⟨lw_p6, List.forall_mem_cons.mpr ⟨lw_p7, List.forall_mem_cons.mpr ⟨lw_p8, List.forall_mem_cons.mpr ⟨lw_p9, List.forall_mem_cons.mpr ⟨lw_p10, List.forall_mem_cons.mpr ⟨lw_p11, List.forall_mem_cons.mpr ⟨lw_p12, List.forall_mem_cons.mpr ⟨lw_p13, List.forall_mem_cons.mpr ⟨lw_p14, List.forall_mem_cons.mpr ⟨lw_p15, fun _ h => absurd h List.not_mem_nil⟩⟩⟩⟩⟩⟩⟩⟩⟩⟩⟩⟩⟩⟩⟩⟩
theorem lw_p16 : lw_okq (⟨"EmptyLegs", "emptyMove", "(II)I"⟩, 10) := ⟨⟨by decide +kernel, by decide +kernel⟩, List.mem_of_getElem? (i := 15) (by decide +kernel), List.mem_of_getElem? (i := 679) (by decide +kernel), List.mem_of_getElem? (i := 680) (by decide +kernel)⟩
theorem lw_p17 : lw_okq (⟨"EmptyLegsModel", "push", "(I)V"⟩, 47) := ⟨⟨by decide +kernel, by decide +kernel⟩, List.mem_of_getElem? (i := 781) (by decide +kernel), List.mem_of_getElem? (i := 934) (by decide +kernel), List.mem_of_getElem? (i := 935) (by decide +kernel)⟩
theorem lw_p18 : lw_okq (⟨"EmptyLegsModel", "reads", "(I)I"⟩, 47) := ⟨⟨by decide +kernel, by decide +kernel⟩, List.mem_of_getElem? (i := 781) (by decide +kernel), List.mem_of_getElem? (i := 945) (by decide +kernel), List.mem_of_getElem? (i := 946) (by decide +kernel)⟩
theorem lw_p19 : lw_okq (⟨"EmptyLegsModel", "at", "(II)I"⟩, 47) := ⟨⟨by decide +kernel, by decide +kernel⟩, List.mem_of_getElem? (i := 781) (by decide +kernel), List.mem_of_getElem? (i := 949) (by decide +kernel), List.mem_of_getElem? (i := 950) (by decide +kernel)⟩
theorem lw_p20 : lw_okq (⟨"EmptyLegsModel", "dutyOn", "(I)I"⟩, 47) := ⟨⟨by decide +kernel, by decide +kernel⟩, List.mem_of_getElem? (i := 781) (by decide +kernel), List.mem_of_getElem? (i := 957) (by decide +kernel), List.mem_of_getElem? (i := 958) (by decide +kernel)⟩
theorem lw_p21 : lw_okq (⟨"EmptyLegsModel", "restOn", "(I)I"⟩, 47) := ⟨⟨by decide +kernel, by decide +kernel⟩, List.mem_of_getElem? (i := 781) (by decide +kernel), List.mem_of_getElem? (i := 961) (by decide +kernel), List.mem_of_getElem? (i := 962) (by decide +kernel)⟩
theorem lw_p22 : lw_okq (⟨"EmptyLegsModel", "minutes", "(II)I"⟩, 47) := ⟨⟨by decide +kernel, by decide +kernel⟩, List.mem_of_getElem? (i := 781) (by decide +kernel), List.mem_of_getElem? (i := 980) (by decide +kernel), List.mem_of_getElem? (i := 981) (by decide +kernel)⟩
theorem lw_p23 : lw_okq (⟨"EmptyLegsModel", "there", "()I"⟩, 47) := ⟨⟨by decide +kernel, by decide +kernel⟩, List.mem_of_getElem? (i := 781) (by decide +kernel), List.mem_of_getElem? (i := 984) (by decide +kernel), List.mem_of_getElem? (i := 985) (by decide +kernel)⟩
theorem lw_p24 : lw_okq (⟨"EmptyLegsModel", "isFlight", "(I)Z"⟩, 47) := ⟨⟨by decide +kernel, by decide +kernel⟩, List.mem_of_getElem? (i := 781) (by decide +kernel), List.mem_of_getElem? (i := 992) (by decide +kernel), List.mem_of_getElem? (i := 993) (by decide +kernel)⟩
theorem lw_p25 : lw_okq (⟨"EmptyLegsModel", "breaks", "()V"⟩, 47) := ⟨⟨by decide +kernel, by decide +kernel⟩, List.mem_of_getElem? (i := 781) (by decide +kernel), List.mem_of_getElem? (i := 996) (by decide +kernel), List.mem_of_getElem? (i := 997) (by decide +kernel)⟩
theorem lw_p26 : lw_okq (⟨"EmptyLegsModel", "binds", "(I)Z"⟩, 47) := ⟨⟨by decide +kernel, by decide +kernel⟩, List.mem_of_getElem? (i := 781) (by decide +kernel), List.mem_of_getElem? (i := 1000) (by decide +kernel), List.mem_of_getElem? (i := 1001) (by decide +kernel)⟩
theorem lw_p27 : lw_okq (⟨"EmptyLegsModel", "hasLeg", "(I)Z"⟩, 47) := ⟨⟨by decide +kernel, by decide +kernel⟩, List.mem_of_getElem? (i := 781) (by decide +kernel), List.mem_of_getElem? (i := 1004) (by decide +kernel), List.mem_of_getElem? (i := 1005) (by decide +kernel)⟩
theorem lw_p28 : lw_okq (⟨"EmptyLegsModel", "hand", "(I)V"⟩, 47) := ⟨⟨by decide +kernel, by decide +kernel⟩, List.mem_of_getElem? (i := 781) (by decide +kernel), List.mem_of_getElem? (i := 1008) (by decide +kernel), List.mem_of_getElem? (i := 1009) (by decide +kernel)⟩
theorem lw_p29 : lw_okq (⟨"EmptyLegsModel", "orders", "()V"⟩, 47) := ⟨⟨by decide +kernel, by decide +kernel⟩, List.mem_of_getElem? (i := 781) (by decide +kernel), List.mem_of_getElem? (i := 1012) (by decide +kernel), List.mem_of_getElem? (i := 1013) (by decide +kernel)⟩
theorem lw_p30 : lw_okq (⟨"EmptyLegsModel", "chains", "(II)V"⟩, 47) := ⟨⟨by decide +kernel, by decide +kernel⟩, List.mem_of_getElem? (i := 781) (by decide +kernel), List.mem_of_getElem? (i := 1016) (by decide +kernel), List.mem_of_getElem? (i := 1017) (by decide +kernel)⟩
theorem lw_p31 : lw_okq (⟨"EmptyLegsModel", "adds", "(IIIIII)V"⟩, 47) := ⟨⟨by decide +kernel, by decide +kernel⟩, List.mem_of_getElem? (i := 781) (by decide +kernel), List.mem_of_getElem? (i := 1020) (by decide +kernel), List.mem_of_getElem? (i := 1021) (by decide +kernel)⟩
def lw_privs_2 : List (MethodName × Nat) := [(⟨"EmptyLegs", "emptyMove", "(II)I"⟩, 10), (⟨"EmptyLegsModel", "push", "(I)V"⟩, 47), (⟨"EmptyLegsModel", "reads", "(I)I"⟩, 47), (⟨"EmptyLegsModel", "at", "(II)I"⟩, 47), (⟨"EmptyLegsModel", "dutyOn", "(I)I"⟩, 47), (⟨"EmptyLegsModel", "restOn", "(I)I"⟩, 47), (⟨"EmptyLegsModel", "minutes", "(II)I"⟩, 47), (⟨"EmptyLegsModel", "there", "()I"⟩, 47), (⟨"EmptyLegsModel", "isFlight", "(I)Z"⟩, 47), (⟨"EmptyLegsModel", "breaks", "()V"⟩, 47), (⟨"EmptyLegsModel", "binds", "(I)Z"⟩, 47), (⟨"EmptyLegsModel", "hasLeg", "(I)Z"⟩, 47), (⟨"EmptyLegsModel", "hand", "(I)V"⟩, 47), (⟨"EmptyLegsModel", "orders", "()V"⟩, 47), (⟨"EmptyLegsModel", "chains", "(II)V"⟩, 47), (⟨"EmptyLegsModel", "adds", "(IIIIII)V"⟩, 47)]
theorem lw_r2 : ∀ q ∈ lw_privs_2, lw_okq q := List.forall_mem_cons.mpr ⟨lw_p16, List.forall_mem_cons.mpr ⟨lw_p17, List.forall_mem_cons.mpr ⟨lw_p18, List.forall_mem_cons.mpr ⟨lw_p19, List.forall_mem_cons.mpr ⟨lw_p20, List.forall_mem_cons.mpr ⟨lw_p21, List.forall_mem_cons.mpr ⟨lw_p22, List.forall_mem_cons.mpr ⟨lw_p23, List.forall_mem_cons.mpr ⟨lw_p24, List.forall_mem_cons.mpr ⟨lw_p25, List.forall_mem_cons.mpr ⟨lw_p26, List.forall_mem_cons.mpr ⟨lw_p27, List.forall_mem_cons.mpr ⟨lw_p28, List.forall_mem_cons.mpr ⟨lw_p29, List.forall_mem_cons.mpr ⟨lw_p30, List.forall_mem_cons.mpr ⟨lw_p31, fun _ h => absurd h List.not_mem_nil⟩⟩⟩⟩⟩⟩⟩⟩⟩⟩⟩⟩⟩⟩⟩⟩
theorem lw_p32 : lw_okq (⟨"EmptyLegsModel", "isLeg", "(II)Z"⟩, 47) := ⟨⟨by decide +kernel, by decide +kernel⟩, List.mem_of_getElem? (i := 781) (by decide +kernel), List.mem_of_getElem? (i := 1024) (by decide +kernel), List.mem_of_getElem? (i := 1025) (by decide +kernel)⟩
theorem lw_p33 : lw_okq (⟨"EmptyLegsModel", "finds", "(Z)I"⟩, 47) := ⟨⟨by decide +kernel, by decide +kernel⟩, List.mem_of_getElem? (i := 781) (by decide +kernel), List.mem_of_getElem? (i := 1040) (by decide +kernel), List.mem_of_getElem? (i := 1041) (by decide +kernel)⟩
theorem lw_p34 : lw_okq (⟨"EmptyLegsModel", "works", "()V"⟩, 47) := ⟨⟨by decide +kernel, by decide +kernel⟩, List.mem_of_getElem? (i := 781) (by decide +kernel), List.mem_of_getElem? (i := 1044) (by decide +kernel), List.mem_of_getElem? (i := 1045) (by decide +kernel)⟩
theorem lw_p35 : lw_okq (⟨"EmptyLegsModel", "holds", "(I)Z"⟩, 47) := ⟨⟨by decide +kernel, by decide +kernel⟩, List.mem_of_getElem? (i := 781) (by decide +kernel), List.mem_of_getElem? (i := 1048) (by decide +kernel), List.mem_of_getElem? (i := 1049) (by decide +kernel)⟩
theorem lw_p36 : lw_okq (⟨"EmptyLegsModel", "isStorm", "(II)Z"⟩, 47) := ⟨⟨by decide +kernel, by decide +kernel⟩, List.mem_of_getElem? (i := 781) (by decide +kernel), List.mem_of_getElem? (i := 1052) (by decide +kernel), List.mem_of_getElem? (i := 1053) (by decide +kernel)⟩
theorem lw_p37 : lw_okq (⟨"EmptyLegsModel", "emptyMinutes", "()I"⟩, 47) := ⟨⟨by decide +kernel, by decide +kernel⟩, List.mem_of_getElem? (i := 781) (by decide +kernel), List.mem_of_getElem? (i := 1056) (by decide +kernel), List.mem_of_getElem? (i := 1057) (by decide +kernel)⟩
theorem lw_p38 : lw_okq (⟨"EmptyLegsModel", "isMoved", "(I)I"⟩, 47) := ⟨⟨by decide +kernel, by decide +kernel⟩, List.mem_of_getElem? (i := 781) (by decide +kernel), List.mem_of_getElem? (i := 1060) (by decide +kernel), List.mem_of_getElem? (i := 1061) (by decide +kernel)⟩
theorem lw_p39 : lw_okq (⟨"EmptyLegsModel", "flown", "()I"⟩, 47) := ⟨⟨by decide +kernel, by decide +kernel⟩, List.mem_of_getElem? (i := 781) (by decide +kernel), List.mem_of_getElem? (i := 1064) (by decide +kernel), List.mem_of_getElem? (i := 1065) (by decide +kernel)⟩
def lw_privs_3 : List (MethodName × Nat) := [(⟨"EmptyLegsModel", "isLeg", "(II)Z"⟩, 47), (⟨"EmptyLegsModel", "finds", "(Z)I"⟩, 47), (⟨"EmptyLegsModel", "works", "()V"⟩, 47), (⟨"EmptyLegsModel", "holds", "(I)Z"⟩, 47), (⟨"EmptyLegsModel", "isStorm", "(II)Z"⟩, 47), (⟨"EmptyLegsModel", "emptyMinutes", "()I"⟩, 47), (⟨"EmptyLegsModel", "isMoved", "(I)I"⟩, 47), (⟨"EmptyLegsModel", "flown", "()I"⟩, 47)]
theorem lw_r3 : ∀ q ∈ lw_privs_3, lw_okq q := List.forall_mem_cons.mpr ⟨lw_p32, List.forall_mem_cons.mpr ⟨lw_p33, List.forall_mem_cons.mpr ⟨lw_p34, List.forall_mem_cons.mpr ⟨lw_p35, List.forall_mem_cons.mpr ⟨lw_p36, List.forall_mem_cons.mpr ⟨lw_p37, List.forall_mem_cons.mpr ⟨lw_p38, List.forall_mem_cons.mpr ⟨lw_p39, fun _ h => absurd h List.not_mem_nil⟩⟩⟩⟩⟩⟩⟩⟩
def lw_privs : List (MethodName × Nat) := lw_privs_1 ++ (lw_privs_2 ++ (lw_privs_3))
def lw_tbl : List Cond := k2_sels lw_privs ++ tables_1
theorem lw_privs_ok : ∀ q ∈ lw_privs, lw_okq q := by
  show ∀ q ∈ lw_privs_1 ++ (lw_privs_2 ++ (lw_privs_3)), lw_okq q
  exact List.forall_mem_append.mpr ⟨lw_r1, List.forall_mem_append.mpr ⟨lw_r2, lw_r3⟩⟩
end
section
def RX0 : String := "EmptyLegs$Chain"
def TX0 : u_T := fun k => match k with
  | 0 => ("EmptyLegs$Chain", "planes", "LEmptyLegs$Planes;", true)
  | 1 => ("EmptyLegs$Chain", "flights", "LEmptyLegs$Flights;", true)
  | 2 => ("EmptyLegs$Chain", "ways", "LEmptyLegs$Ways;", true)
  | 3 => ("EmptyLegs$Chain", "storms", "LEmptyLegs$Storms;", true)
  | 4 => ("EmptyLegs$Chain", "law", "LEmptyLegs$Law;", true)
  | 5 => ("EmptyLegs$Chain", "seats", "I", false)
  | 6 => ("EmptyLegs$Chain", "turn", "I", false)
  | 7 => ("EmptyLegs$Chain", "place", "I", false)
  | 8 => ("EmptyLegs$Chain", "ended", "I", false)
  | _ => ("EmptyLegs$Chain", "dutyBegan", "I", false)
def tyX0 : Nat → FieldType := fun k => match k with
  | 0 => .object "EmptyLegs$Planes"
  | 1 => .object "EmptyLegs$Flights"
  | 2 => .object "EmptyLegs$Ways"
  | 3 => .object "EmptyLegs$Storms"
  | 4 => .object "EmptyLegs$Law"
  | 5 => .int
  | 6 => .int
  | 7 => .int
  | 8 => .int
  | _ => .int
abbrev wsX00 : List Cond := u_ws RX0 TX0 10
theorem nmX0 : ∀ a, a < 10 → ∀ b, b < 10 → a ≠ b → (TX0 a).2.1 ≠ (TX0 b).2.1 := by decide +kernel
theorem tyX0_ok : ∀ k, k < 10 → parseFieldDescriptor (TX0 k).2.2.1 = some (tyX0 k) := by decide +kernel
abbrev cX0_init : ByteArray := prog_2_method_1_code
def yX0_init : MethodName := ⟨RX0, "<init>", "(LEmptyLegs$Planes;LEmptyLegs$Flights;LEmptyLegs$Ways;LEmptyLegs$Storms;LEmptyLegs$Law;)V"⟩
abbrev cX0_begin : ByteArray := prog_2_method_2_code
def yX0_begin : MethodName := ⟨RX0, "begin", "(I)V"⟩
abbrev cX0_resume : ByteArray := prog_2_method_3_code
def yX0_resume : MethodName := ⟨RX0, "resume", "(III)V"⟩
abbrev cX0_place : ByteArray := prog_2_method_4_code
def yX0_place : MethodName := ⟨RX0, "place", "()I"⟩
abbrev cX0_ended : ByteArray := prog_2_method_5_code
def yX0_ended : MethodName := ⟨RX0, "ended", "()I"⟩
abbrev cX0_dutyBegan : ByteArray := prog_2_method_6_code
def yX0_dutyBegan : MethodName := ⟨RX0, "dutyBegan", "()I"⟩
abbrev cX0_join : ByteArray := prog_2_method_7_code
def yX0_join : MethodName := ⟨RX0, "join", "(I)I"⟩
abbrev cX0_goes : ByteArray := prog_2_method_8_code
def yX0_goes : MethodName := ⟨RX0, "goes", "(III)Z"⟩
def RX1 : String := "EmptyLegs$Flights"
def TX1 : u_T := fun k => match k with
  | 0 => ("EmptyLegs$Flights", "from", "[I", true)
  | 1 => ("EmptyLegs$Flights", "to", "[I", true)
  | 2 => ("EmptyLegs$Flights", "start", "[I", true)
  | 3 => ("EmptyLegs$Flights", "seats", "[I", true)
  | 4 => ("EmptyLegs$Flights", "struck", "[Z", true)
  | 5 => ("EmptyLegs$Flights", "order", "[I", true)
  | 6 => ("EmptyLegs$Flights", "size", "I", false)
  | _ => ("EmptyLegs$Flights", "live", "I", false)
def tyX1 : Nat → FieldType := fun k => match k with
  | 0 => .array .int
  | 1 => .array .int
  | 2 => .array .int
  | 3 => .array .int
  | 4 => .array .boolean
  | 5 => .array .int
  | 6 => .int
  | _ => .int
abbrev wsX10 : List Cond := u_ws RX1 TX1 8
theorem nmX1 : ∀ a, a < 8 → ∀ b, b < 8 → a ≠ b → (TX1 a).2.1 ≠ (TX1 b).2.1 := by decide +kernel
theorem tyX1_ok : ∀ k, k < 8 → parseFieldDescriptor (TX1 k).2.2.1 = some (tyX1 k) := by decide +kernel
abbrev cX1_init : ByteArray := prog_3_method_1_code
def yX1_init : MethodName := ⟨RX1, "<init>", "()V"⟩
abbrev cX1_add : ByteArray := prog_3_method_2_code
def yX1_add : MethodName := ⟨RX1, "add", "(IIII)I"⟩
abbrev cX1_lineUp : ByteArray := prog_3_method_3_code
def yX1_lineUp : MethodName := ⟨RX1, "lineUp", "(II)V"⟩
abbrev cX1_strike : ByteArray := prog_3_method_4_code
def yX1_strike : MethodName := ⟨RX1, "strike", "(I)V"⟩
abbrev cX1_size : ByteArray := prog_3_method_5_code
def yX1_size : MethodName := ⟨RX1, "size", "()I"⟩
abbrev cX1_live : ByteArray := prog_3_method_6_code
def yX1_live : MethodName := ⟨RX1, "live", "()I"⟩
abbrev cX1_has : ByteArray := prog_3_method_7_code
def yX1_has : MethodName := ⟨RX1, "has", "(I)Z"⟩
abbrev cX1_isLive : ByteArray := prog_3_method_8_code
def yX1_isLive : MethodName := ⟨RX1, "isLive", "(I)Z"⟩
abbrev cX1_inOrder : ByteArray := prog_3_method_9_code
def yX1_inOrder : MethodName := ⟨RX1, "inOrder", "(I)I"⟩
abbrev cX1_fromOf : ByteArray := prog_3_method_10_code
def yX1_fromOf : MethodName := ⟨RX1, "fromOf", "(I)I"⟩
abbrev cX1_toOf : ByteArray := prog_3_method_11_code
def yX1_toOf : MethodName := ⟨RX1, "toOf", "(I)I"⟩
abbrev cX1_startOf : ByteArray := prog_3_method_12_code
def yX1_startOf : MethodName := ⟨RX1, "startOf", "(I)I"⟩
abbrev cX1_seatsOf : ByteArray := prog_3_method_13_code
def yX1_seatsOf : MethodName := ⟨RX1, "seatsOf", "(I)I"⟩
abbrev cX1_anyBetween : ByteArray := prog_3_method_14_code
def yX1_anyBetween : MethodName := ⟨RX1, "anyBetween", "(II)Z"⟩
def RX2 : String := "EmptyLegs$Law"
def TX2 : u_T := fun k => match k with
  | 0 => ("EmptyLegs$Law", "toldDuty", "[I", true)
  | 1 => ("EmptyLegs$Law", "toldRest", "[I", true)
  | 2 => ("EmptyLegs$Law", "duty", "[I", true)
  | 3 => ("EmptyLegs$Law", "rest", "[I", true)
  | 4 => ("EmptyLegs$Law", "readDuty", "I", false)
  | 5 => ("EmptyLegs$Law", "readRest", "I", false)
  | _ => ("EmptyLegs$Law", "place", "I", false)
def tyX2 : Nat → FieldType := fun k => match k with
  | 0 => .array .int
  | 1 => .array .int
  | 2 => .array .int
  | 3 => .array .int
  | 4 => .int
  | 5 => .int
  | _ => .int
abbrev wsX20 : List Cond := u_ws RX2 TX2 7
theorem nmX2 : ∀ a, a < 7 → ∀ b, b < 7 → a ≠ b → (TX2 a).2.1 ≠ (TX2 b).2.1 := by decide +kernel
theorem tyX2_ok : ∀ k, k < 7 → parseFieldDescriptor (TX2 k).2.2.1 = some (tyX2 k) := by decide +kernel
abbrev cX2_init : ByteArray := prog_4_method_1_code
def yX2_init : MethodName := ⟨RX2, "<init>", "()V"⟩
abbrev cX2_dutyOn : ByteArray := prog_4_method_2_code
def yX2_dutyOn : MethodName := ⟨RX2, "dutyOn", "(I)I"⟩
abbrev cX2_restOn : ByteArray := prog_4_method_3_code
def yX2_restOn : MethodName := ⟨RX2, "restOn", "(I)I"⟩
abbrev cX2_read : ByteArray := prog_4_method_4_code
def yX2_read : MethodName := ⟨RX2, "read", "(LEmptyLegs$Tape;I)I"⟩
abbrev cX2_readClause : ByteArray := prog_4_method_5_code
def yX2_readClause : MethodName := ⟨RX2, "readClause", "(LEmptyLegs$Tape;I)I"⟩
abbrev cX2_readNumber : ByteArray := prog_4_method_6_code
def yX2_readNumber : MethodName := ⟨RX2, "readNumber", "(LEmptyLegs$Tape;I)I"⟩
abbrev cX2_enact : ByteArray := prog_4_method_7_code
def yX2_enact : MethodName := ⟨RX2, "enact", "(I)V"⟩
def RX3 : String := "EmptyLegs$Offers"
def TX3 : u_T := fun k => match k with
  | 0 => ("EmptyLegs$Offers", "state", "[I", true)
  | 1 => ("EmptyLegs$Offers", "place", "[I", true)
  | 2 => ("EmptyLegs$Offers", "plane", "[I", true)
  | 3 => ("EmptyLegs$Offers", "flight", "[I", true)
  | 4 => ("EmptyLegs$Offers", "price", "[I", true)
  | 5 => ("EmptyLegs$Offers", "till", "[I", true)
  | 6 => ("EmptyLegs$Offers", "client", "[I", true)
  | _ => ("EmptyLegs$Offers", "size", "I", false)
def tyX3 : Nat → FieldType := fun k => match k with
  | 0 => .array .int
  | 1 => .array .int
  | 2 => .array .int
  | 3 => .array .int
  | 4 => .array .int
  | 5 => .array .int
  | 6 => .array .int
  | _ => .int
abbrev wsX30 : List Cond := u_ws RX3 TX3 8
theorem nmX3 : ∀ a, a < 8 → ∀ b, b < 8 → a ≠ b → (TX3 a).2.1 ≠ (TX3 b).2.1 := by decide +kernel
theorem tyX3_ok : ∀ k, k < 8 → parseFieldDescriptor (TX3 k).2.2.1 = some (tyX3 k) := by decide +kernel
abbrev cX3_init : ByteArray := prog_5_method_1_code
def yX3_init : MethodName := ⟨RX3, "<init>", "()V"⟩
abbrev cX3_add : ByteArray := prog_5_method_2_code
def yX3_add : MethodName := ⟨RX3, "add", "(IIIII)I"⟩
abbrev cX3_sell : ByteArray := prog_5_method_3_code
def yX3_sell : MethodName := ⟨RX3, "sell", "(II)V"⟩
abbrev cX3_lapseBehind : ByteArray := prog_5_method_4_code
def yX3_lapseBehind : MethodName := ⟨RX3, "lapseBehind", "(I)V"⟩
abbrev cX3_breakLost : ByteArray := prog_5_method_5_code
def yX3_breakLost : MethodName := ⟨RX3, "breakLost", "(LEmptyLegs$Roster;)V"⟩
abbrev cX3_isStanding : ByteArray := prog_5_method_6_code
def yX3_isStanding : MethodName := ⟨RX3, "isStanding", "(I)Z"⟩
abbrev cX3_isHeld : ByteArray := prog_5_method_7_code
def yX3_isHeld : MethodName := ⟨RX3, "isHeld", "(I)Z"⟩
abbrev cX3_takenPrice : ByteArray := prog_5_method_8_code
def yX3_takenPrice : MethodName := ⟨RX3, "takenPrice", "(I)I"⟩
abbrev cX3_size : ByteArray := prog_5_method_9_code
def yX3_size : MethodName := ⟨RX3, "size", "()I"⟩
abbrev cX3_has : ByteArray := prog_5_method_10_code
def yX3_has : MethodName := ⟨RX3, "has", "(I)Z"⟩
abbrev cX3_stateOf : ByteArray := prog_5_method_11_code
def yX3_stateOf : MethodName := ⟨RX3, "stateOf", "(I)I"⟩
abbrev cX3_priceOf : ByteArray := prog_5_method_12_code
def yX3_priceOf : MethodName := ⟨RX3, "priceOf", "(I)I"⟩
abbrev cX3_tillOf : ByteArray := prog_5_method_13_code
def yX3_tillOf : MethodName := ⟨RX3, "tillOf", "(I)I"⟩
abbrev cX3_clientOf : ByteArray := prog_5_method_14_code
def yX3_clientOf : MethodName := ⟨RX3, "clientOf", "(I)I"⟩
abbrev cX3_planeOf : ByteArray := prog_5_method_15_code
def yX3_planeOf : MethodName := ⟨RX3, "planeOf", "(I)I"⟩
abbrev cX3_flightOf : ByteArray := prog_5_method_16_code
def yX3_flightOf : MethodName := ⟨RX3, "flightOf", "(I)I"⟩
def RX4 : String := "EmptyLegs$Planes"
def TX4 : u_T := fun k => match k with
  | 0 => ("EmptyLegs$Planes", "home", "[I", true)
  | 1 => ("EmptyLegs$Planes", "seats", "[I", true)
  | 2 => ("EmptyLegs$Planes", "turn", "[I", true)
  | 3 => ("EmptyLegs$Planes", "rate", "[I", true)
  | _ => ("EmptyLegs$Planes", "size", "I", false)
def tyX4 : Nat → FieldType := fun k => match k with
  | 0 => .array .int
  | 1 => .array .int
  | 2 => .array .int
  | 3 => .array .int
  | _ => .int
abbrev wsX40 : List Cond := u_ws RX4 TX4 5
theorem nmX4 : ∀ a, a < 5 → ∀ b, b < 5 → a ≠ b → (TX4 a).2.1 ≠ (TX4 b).2.1 := by decide +kernel
theorem tyX4_ok : ∀ k, k < 5 → parseFieldDescriptor (TX4 k).2.2.1 = some (tyX4 k) := by decide +kernel
abbrev cX4_init : ByteArray := prog_6_method_1_code
def yX4_init : MethodName := ⟨RX4, "<init>", "()V"⟩
abbrev cX4_add : ByteArray := prog_6_method_2_code
def yX4_add : MethodName := ⟨RX4, "add", "(IIII)I"⟩
abbrev cX4_size : ByteArray := prog_6_method_3_code
def yX4_size : MethodName := ⟨RX4, "size", "()I"⟩
abbrev cX4_has : ByteArray := prog_6_method_4_code
def yX4_has : MethodName := ⟨RX4, "has", "(I)Z"⟩
abbrev cX4_homeOf : ByteArray := prog_6_method_5_code
def yX4_homeOf : MethodName := ⟨RX4, "homeOf", "(I)I"⟩
abbrev cX4_seatsOf : ByteArray := prog_6_method_6_code
def yX4_seatsOf : MethodName := ⟨RX4, "seatsOf", "(I)I"⟩
abbrev cX4_turnOf : ByteArray := prog_6_method_7_code
def yX4_turnOf : MethodName := ⟨RX4, "turnOf", "(I)I"⟩
abbrev cX4_rateOf : ByteArray := prog_6_method_8_code
def yX4_rateOf : MethodName := ⟨RX4, "rateOf", "(I)I"⟩
def RX5 : String := "EmptyLegs$Planner"
def TX5 : u_T := fun k => match k with
  | 0 => ("EmptyLegs$Planner", "planes", "LEmptyLegs$Planes;", true)
  | 1 => ("EmptyLegs$Planner", "flights", "LEmptyLegs$Flights;", true)
  | 2 => ("EmptyLegs$Planner", "roster", "LEmptyLegs$Roster;", true)
  | 3 => ("EmptyLegs$Planner", "chain", "LEmptyLegs$Chain;", true)
  | 4 => ("EmptyLegs$Planner", "lined", "[I", true)
  | 5 => ("EmptyLegs$Planner", "digit", "[J", true)
  | 6 => ("EmptyLegs$Planner", "cost", "[J", true)
  | 7 => ("EmptyLegs$Planner", "least", "[J", true)
  | 8 => ("EmptyLegs$Planner", "place", "[I", true)
  | 9 => ("EmptyLegs$Planner", "ended", "[I", true)
  | 10 => ("EmptyLegs$Planner", "dutyBegan", "[I", true)
  | 11 => ("EmptyLegs$Planner", "many", "I", false)
  | _ => ("EmptyLegs$Planner", "movedWeight", "J", false)
def tyX5 : Nat → FieldType := fun k => match k with
  | 0 => .object "EmptyLegs$Planes"
  | 1 => .object "EmptyLegs$Flights"
  | 2 => .object "EmptyLegs$Roster"
  | 3 => .object "EmptyLegs$Chain"
  | 4 => .array .int
  | 5 => .array .long
  | 6 => .array .long
  | 7 => .array .long
  | 8 => .array .int
  | 9 => .array .int
  | 10 => .array .int
  | 11 => .int
  | _ => .long
abbrev wsX50 : List Cond := u_ws RX5 TX5 13
theorem nmX5 : ∀ a, a < 13 → ∀ b, b < 13 → a ≠ b → (TX5 a).2.1 ≠ (TX5 b).2.1 := by decide +kernel
theorem tyX5_ok : ∀ k, k < 13 → parseFieldDescriptor (TX5 k).2.2.1 = some (tyX5 k) := by decide +kernel
abbrev cX5_init : ByteArray := prog_7_method_1_code
def yX5_init : MethodName := ⟨RX5, "<init>", "(LEmptyLegs$Planes;LEmptyLegs$Flights;LEmptyLegs$Roster;LEmptyLegs$Chain;)V"⟩
abbrev cX5_settle : ByteArray := prog_7_method_2_code
def yX5_settle : MethodName := ⟨RX5, "settle", "(Z)I"⟩
abbrev cX5_holds : ByteArray := prog_7_method_3_code
def yX5_holds : MethodName := ⟨RX5, "holds", "()Z"⟩
abbrev cX5_lineUp : ByteArray := prog_7_method_4_code
def yX5_lineUp : MethodName := ⟨RX5, "lineUp", "()V"⟩
abbrev cX5_addWeighed : ByteArray := prog_7_method_5_code
def yX5_addWeighed : MethodName := ⟨RX5, "addWeighed", "()V"⟩
abbrev cX5_leastOf : ByteArray := prog_7_method_6_code
def yX5_leastOf : MethodName := ⟨RX5, "leastOf", "(I)J"⟩
abbrev cX5_weighChains : ByteArray := prog_7_method_7_code
def yX5_weighChains : MethodName := ⟨RX5, "weighChains", "(I)V"⟩
abbrev cX5_costBehind : ByteArray := prog_7_method_8_code
def yX5_costBehind : MethodName := ⟨RX5, "costBehind", "(IIJ)J"⟩
abbrev cX5_keep : ByteArray := prog_7_method_9_code
def yX5_keep : MethodName := ⟨RX5, "keep", "(IJ)V"⟩
abbrev cX5_weighUnflown : ByteArray := prog_7_method_10_code
def yX5_weighUnflown : MethodName := ⟨RX5, "weighUnflown", "()V"⟩
abbrev cX5_ownCost : ByteArray := prog_7_method_11_code
def yX5_ownCost : MethodName := ⟨RX5, "ownCost", "(II)J"⟩
abbrev cX5_enter : ByteArray := prog_7_method_12_code
def yX5_enter : MethodName := ⟨RX5, "enter", "(J)V"⟩
def RX6 : String := "EmptyLegs$Roster"
def TX6 : u_T := fun k => match k with
  | 0 => ("EmptyLegs$Roster", "planes", "LEmptyLegs$Planes;", true)
  | 1 => ("EmptyLegs$Roster", "flights", "LEmptyLegs$Flights;", true)
  | 2 => ("EmptyLegs$Roster", "ways", "LEmptyLegs$Ways;", true)
  | _ => ("EmptyLegs$Roster", "plane", "[I", true)
def tyX6 : Nat → FieldType := fun k => match k with
  | 0 => .object "EmptyLegs$Planes"
  | 1 => .object "EmptyLegs$Flights"
  | 2 => .object "EmptyLegs$Ways"
  | _ => .array .int
abbrev wsX60 : List Cond := u_ws RX6 TX6 4
theorem nmX6 : ∀ a, a < 4 → ∀ b, b < 4 → a ≠ b → (TX6 a).2.1 ≠ (TX6 b).2.1 := by decide +kernel
theorem tyX6_ok : ∀ k, k < 4 → parseFieldDescriptor (TX6 k).2.2.1 = some (tyX6 k) := by decide +kernel
abbrev cX6_init : ByteArray := prog_8_method_1_code
def yX6_init : MethodName := ⟨RX6, "<init>", "(LEmptyLegs$Planes;LEmptyLegs$Flights;LEmptyLegs$Ways;)V"⟩
abbrev cX6_assign : ByteArray := prog_8_method_2_code
def yX6_assign : MethodName := ⟨RX6, "assign", "(II)V"⟩
abbrev cX6_planeOf : ByteArray := prog_8_method_3_code
def yX6_planeOf : MethodName := ⟨RX6, "planeOf", "(I)I"⟩
abbrev cX6_flown : ByteArray := prog_8_method_4_code
def yX6_flown : MethodName := ⟨RX6, "flown", "()I"⟩
abbrev cX6_emptyMinutes : ByteArray := prog_8_method_5_code
def yX6_emptyMinutes : MethodName := ⟨RX6, "emptyMinutes", "()I"⟩
abbrev cX6_minutesOf : ByteArray := prog_8_method_6_code
def yX6_minutesOf : MethodName := ⟨RX6, "minutesOf", "(I)I"⟩
abbrev cX6_placeAhead : ByteArray := prog_8_method_7_code
def yX6_placeAhead : MethodName := ⟨RX6, "placeAhead", "(I)I"⟩
abbrev cX6_hasLeg : ByteArray := prog_8_method_8_code
def yX6_hasLeg : MethodName := ⟨RX6, "hasLeg", "(I)Z"⟩
abbrev cX6_legMinutes : ByteArray := prog_8_method_9_code
def yX6_legMinutes : MethodName := ⟨RX6, "legMinutes", "(I)I"⟩
abbrev cX6_flightAt : ByteArray := prog_8_method_10_code
def yX6_flightAt : MethodName := ⟨RX6, "flightAt", "(II)I"⟩
abbrev cX6_legAt : ByteArray := prog_8_method_11_code
def yX6_legAt : MethodName := ⟨RX6, "legAt", "(II)I"⟩
def RX7 : String := "EmptyLegs$Storms"
def TX7 : u_T := fun k => match k with
  | 0 => ("EmptyLegs$Storms", "field", "[I", true)
  | 1 => ("EmptyLegs$Storms", "from", "[I", true)
  | 2 => ("EmptyLegs$Storms", "to", "[I", true)
  | _ => ("EmptyLegs$Storms", "size", "I", false)
def tyX7 : Nat → FieldType := fun k => match k with
  | 0 => .array .int
  | 1 => .array .int
  | 2 => .array .int
  | _ => .int
abbrev wsX70 : List Cond := u_ws RX7 TX7 4
theorem nmX7 : ∀ a, a < 4 → ∀ b, b < 4 → a ≠ b → (TX7 a).2.1 ≠ (TX7 b).2.1 := by decide +kernel
theorem tyX7_ok : ∀ k, k < 4 → parseFieldDescriptor (TX7 k).2.2.1 = some (tyX7 k) := by decide +kernel
abbrev cX7_init : ByteArray := prog_9_method_1_code
def yX7_init : MethodName := ⟨RX7, "<init>", "()V"⟩
abbrev cX7_add : ByteArray := prog_9_method_2_code
def yX7_add : MethodName := ⟨RX7, "add", "(III)I"⟩
abbrev cX7_size : ByteArray := prog_9_method_3_code
def yX7_size : MethodName := ⟨RX7, "size", "()I"⟩
abbrev cX7_shuts : ByteArray := prog_9_method_4_code
def yX7_shuts : MethodName := ⟨RX7, "shuts", "(II)Z"⟩
def RX8 : String := "EmptyLegs$Tape"
def TX8 : u_T := fun k => match k with
  | 0 => ("EmptyLegs$Tape", "bytes", "[I", true)
  | _ => ("EmptyLegs$Tape", "length", "I", false)
def tyX8 : Nat → FieldType := fun k => match k with
  | 0 => .array .int
  | _ => .int
abbrev wsX80 : List Cond := u_ws RX8 TX8 2
theorem nmX8 : ∀ a, a < 2 → ∀ b, b < 2 → a ≠ b → (TX8 a).2.1 ≠ (TX8 b).2.1 := by decide +kernel
theorem tyX8_ok : ∀ k, k < 2 → parseFieldDescriptor (TX8 k).2.2.1 = some (tyX8 k) := by decide +kernel
abbrev cX8_init : ByteArray := prog_10_method_1_code
def yX8_init : MethodName := ⟨RX8, "<init>", "()V"⟩
abbrev cX8_length : ByteArray := prog_10_method_2_code
def yX8_length : MethodName := ⟨RX8, "length", "()I"⟩
abbrev cX8_hasRoom : ByteArray := prog_10_method_3_code
def yX8_hasRoom : MethodName := ⟨RX8, "hasRoom", "()Z"⟩
abbrev cX8_write : ByteArray := prog_10_method_4_code
def yX8_write : MethodName := ⟨RX8, "write", "(I)V"⟩
abbrev cX8_at : ByteArray := prog_10_method_5_code
def yX8_at : MethodName := ⟨RX8, "at", "(II)I"⟩
abbrev cX8_wipe : ByteArray := prog_10_method_6_code
def yX8_wipe : MethodName := ⟨RX8, "wipe", "()V"⟩
def RX9 : String := "EmptyLegs$Ways"
def TX9 : u_T := fun k => match k with
  | _ => ("EmptyLegs$Ways", "minutes", "[I", true)
def tyX9 : Nat → FieldType := fun k => match k with
  | _ => .array .int
abbrev wsX90 : List Cond := u_ws RX9 TX9 1
theorem nmX9 : ∀ a, a < 1 → ∀ b, b < 1 → a ≠ b → (TX9 a).2.1 ≠ (TX9 b).2.1 := by decide +kernel
theorem tyX9_ok : ∀ k, k < 1 → parseFieldDescriptor (TX9 k).2.2.1 = some (tyX9 k) := by decide +kernel
abbrev cX9_init : ByteArray := prog_11_method_1_code
def yX9_init : MethodName := ⟨RX9, "<init>", "()V"⟩
abbrev cX9_minutes : ByteArray := prog_11_method_2_code
def yX9_minutes : MethodName := ⟨RX9, "minutes", "(II)I"⟩
abbrev cX9_put : ByteArray := prog_11_method_3_code
def yX9_put : MethodName := ⟨RX9, "put", "(III)V"⟩
def RX10 : String := "EmptyLegs"
def TX10 : u_T := fun k => match k with
  | 0 => ("EmptyLegs", "tape", "LEmptyLegs$Tape;", true)
  | 1 => ("EmptyLegs", "texts", "LEmptyLegs$Law;", true)
  | 2 => ("EmptyLegs", "ways", "LEmptyLegs$Ways;", true)
  | 3 => ("EmptyLegs", "planes", "LEmptyLegs$Planes;", true)
  | 4 => ("EmptyLegs", "flights", "LEmptyLegs$Flights;", true)
  | 5 => ("EmptyLegs", "storms", "LEmptyLegs$Storms;", true)
  | 6 => ("EmptyLegs", "roster", "LEmptyLegs$Roster;", true)
  | 7 => ("EmptyLegs", "planner", "LEmptyLegs$Planner;", true)
  | 8 => ("EmptyLegs", "offers", "LEmptyLegs$Offers;", true)
  | _ => ("EmptyLegs", "now", "I", false)
def tyX10 : Nat → FieldType := fun k => match k with
  | 0 => .object "EmptyLegs$Tape"
  | 1 => .object "EmptyLegs$Law"
  | 2 => .object "EmptyLegs$Ways"
  | 3 => .object "EmptyLegs$Planes"
  | 4 => .object "EmptyLegs$Flights"
  | 5 => .object "EmptyLegs$Storms"
  | 6 => .object "EmptyLegs$Roster"
  | 7 => .object "EmptyLegs$Planner"
  | 8 => .object "EmptyLegs$Offers"
  | _ => .int
abbrev wsX100 : List Cond := u_ws RX10 TX10 10
theorem nmX10 : ∀ a, a < 10 → ∀ b, b < 10 → a ≠ b → (TX10 a).2.1 ≠ (TX10 b).2.1 := by decide +kernel
theorem tyX10_ok : ∀ k, k < 10 → parseFieldDescriptor (TX10 k).2.2.1 = some (tyX10 k) := by decide +kernel
abbrev cX10_init : ByteArray := prog_1_method_1_code
def yX10_init : MethodName := ⟨RX10, "<init>", "()V"⟩
abbrev cX10_feed : ByteArray := prog_1_method_2_code
def yX10_feed : MethodName := ⟨RX10, "feed", "(IIIII)I"⟩
abbrev cX10_law : ByteArray := prog_1_method_3_code
def yX10_law : MethodName := ⟨RX10, "law", "(II)I"⟩
abbrev cX10_rule : ByteArray := prog_1_method_4_code
def yX10_rule : MethodName := ⟨RX10, "rule", "(II)I"⟩
abbrev cX10_way : ByteArray := prog_1_method_5_code
def yX10_way : MethodName := ⟨RX10, "way", "(III)Z"⟩
abbrev cX10_plane : ByteArray := prog_1_method_6_code
def yX10_plane : MethodName := ⟨RX10, "plane", "(IIII)I"⟩
abbrev cX10_flight : ByteArray := prog_1_method_7_code
def yX10_flight : MethodName := ⟨RX10, "flight", "(IIII)I"⟩
abbrev cX10_cancel : ByteArray := prog_1_method_8_code
def yX10_cancel : MethodName := ⟨RX10, "cancel", "(I)Z"⟩
abbrev cX10_storm : ByteArray := prog_1_method_9_code
def yX10_storm : MethodName := ⟨RX10, "storm", "(III)I"⟩
abbrev cX10_clock : ByteArray := prog_1_method_10_code
def yX10_clock : MethodName := ⟨RX10, "clock", "(I)Z"⟩
abbrev cX10_plan : ByteArray := prog_1_method_11_code
def yX10_plan : MethodName := ⟨RX10, "plan", "()I"⟩
abbrev cX10_replan : ByteArray := prog_1_method_12_code
def yX10_replan : MethodName := ⟨RX10, "replan", "()I"⟩
abbrev cX10_fits : ByteArray := prog_1_method_13_code
def yX10_fits : MethodName := ⟨RX10, "fits", "()I"⟩
abbrev cX10_on : ByteArray := prog_1_method_14_code
def yX10_on : MethodName := ⟨RX10, "on", "(I)I"⟩
abbrev cX10_move : ByteArray := prog_1_method_15_code
def yX10_move : MethodName := ⟨RX10, "move", "(III)I"⟩
abbrev cX10_offer : ByteArray := prog_1_method_16_code
def yX10_offer : MethodName := ⟨RX10, "offer", "(IIII)I"⟩
abbrev cX10_take : ByteArray := prog_1_method_17_code
def yX10_take : MethodName := ⟨RX10, "take", "(II)Z"⟩
abbrev cX10_told : ByteArray := prog_1_method_18_code
def yX10_told : MethodName := ⟨RX10, "told", "(II)I"⟩
abbrev cX10_bill : ByteArray := prog_1_method_19_code
def yX10_bill : MethodName := ⟨RX10, "bill", "(I)J"⟩
abbrev cX10_look : ByteArray := prog_1_method_20_code
def yX10_look : MethodName := ⟨RX10, "look", "(II)I"⟩
abbrev cX10_count : ByteArray := prog_1_method_21_code
def yX10_count : MethodName := ⟨RX10, "count", "(I)I"⟩
abbrev cX10_flownMove : ByteArray := prog_1_method_22_code
def yX10_flownMove : MethodName := ⟨RX10, "flownMove", "(II)I"⟩
abbrev cX10_emptyMove : ByteArray := prog_1_method_23_code
def yX10_emptyMove : MethodName := ⟨RX10, "emptyMove", "(II)I"⟩
abbrev cX10_isWithin : ByteArray := prog_1_method_24_code
def yX10_isWithin : MethodName := ⟨RX10, "isWithin", "(III)Z"⟩
abbrev cX10_isField : ByteArray := prog_1_method_25_code
def yX10_isField : MethodName := ⟨RX10, "isField", "(I)Z"⟩
abbrev cX10_isDay : ByteArray := prog_1_method_26_code
def yX10_isDay : MethodName := ⟨RX10, "isDay", "(I)Z"⟩
abbrev cX10_isMinute : ByteArray := prog_1_method_27_code
def yX10_isMinute : MethodName := ⟨RX10, "isMinute", "(I)Z"⟩
def RX11 : String := "EmptyLegsModel"
def TX11 : u_T := fun k => match k with
  | 0 => ("EmptyLegsModel", "tape", "[B", true)
  | 1 => ("EmptyLegsModel", "taped", "I", false)
  | 2 => ("EmptyLegsModel", "now", "I", false)
  | 3 => ("EmptyLegsModel", "isLaw", "[Z", true)
  | 4 => ("EmptyLegsModel", "duty", "[I", true)
  | 5 => ("EmptyLegsModel", "rest", "[I", true)
  | 6 => ("EmptyLegsModel", "readDuty", "I", false)
  | 7 => ("EmptyLegsModel", "readRest", "I", false)
  | 8 => ("EmptyLegsModel", "ways", "[I", true)
  | 9 => ("EmptyLegsModel", "planes", "I", false)
  | 10 => ("EmptyLegsModel", "home", "[I", true)
  | 11 => ("EmptyLegsModel", "seats", "[I", true)
  | 12 => ("EmptyLegsModel", "turn", "[I", true)
  | 13 => ("EmptyLegsModel", "rate", "[I", true)
  | 14 => ("EmptyLegsModel", "flights", "I", false)
  | 15 => ("EmptyLegsModel", "from", "[I", true)
  | 16 => ("EmptyLegsModel", "to", "[I", true)
  | 17 => ("EmptyLegsModel", "start", "[I", true)
  | 18 => ("EmptyLegsModel", "wants", "[I", true)
  | 19 => ("EmptyLegsModel", "isCancelled", "[Z", true)
  | 20 => ("EmptyLegsModel", "on", "[I", true)
  | 21 => ("EmptyLegsModel", "storms", "I", false)
  | 22 => ("EmptyLegsModel", "stormAt", "[I", true)
  | 23 => ("EmptyLegsModel", "stormFrom", "[I", true)
  | 24 => ("EmptyLegsModel", "stormTo", "[I", true)
  | 25 => ("EmptyLegsModel", "offers", "I", false)
  | 26 => ("EmptyLegsModel", "state", "[I", true)
  | 27 => ("EmptyLegsModel", "price", "[I", true)
  | 28 => ("EmptyLegsModel", "till", "[I", true)
  | 29 => ("EmptyLegsModel", "client", "[I", true)
  | 30 => ("EmptyLegsModel", "legPlane", "[I", true)
  | 31 => ("EmptyLegsModel", "legFrom", "[I", true)
  | 32 => ("EmptyLegsModel", "legTo", "[I", true)
  | 33 => ("EmptyLegsModel", "legFlight", "[I", true)
  | 34 => ("EmptyLegsModel", "many", "I", false)
  | 35 => ("EmptyLegsModel", "row", "[I", true)
  | 36 => ("EmptyLegsModel", "moves", "I", false)
  | 37 => ("EmptyLegsModel", "moveFlight", "[I", true)
  | 38 => ("EmptyLegsModel", "moveFrom", "[I", true)
  | 39 => ("EmptyLegsModel", "moveTo", "[I", true)
  | 40 => ("EmptyLegsModel", "begins", "[I", true)
  | 41 => ("EmptyLegsModel", "ends", "[I", true)
  | 42 => ("EmptyLegsModel", "ahead", "[I", true)
  | 43 => ("EmptyLegsModel", "cost", "[I", true)
  | 44 => ("EmptyLegsModel", "digit", "[I", true)
  | 45 => ("EmptyLegsModel", "best", "[I", true)
  | _ => ("EmptyLegsModel", "sets", "[I", true)
def tyX11 : Nat → FieldType := fun k => match k with
  | 0 => .array .byte
  | 1 => .int
  | 2 => .int
  | 3 => .array .boolean
  | 4 => .array .int
  | 5 => .array .int
  | 6 => .int
  | 7 => .int
  | 8 => .array .int
  | 9 => .int
  | 10 => .array .int
  | 11 => .array .int
  | 12 => .array .int
  | 13 => .array .int
  | 14 => .int
  | 15 => .array .int
  | 16 => .array .int
  | 17 => .array .int
  | 18 => .array .int
  | 19 => .array .boolean
  | 20 => .array .int
  | 21 => .int
  | 22 => .array .int
  | 23 => .array .int
  | 24 => .array .int
  | 25 => .int
  | 26 => .array .int
  | 27 => .array .int
  | 28 => .array .int
  | 29 => .array .int
  | 30 => .array .int
  | 31 => .array .int
  | 32 => .array .int
  | 33 => .array .int
  | 34 => .int
  | 35 => .array .int
  | 36 => .int
  | 37 => .array .int
  | 38 => .array .int
  | 39 => .array .int
  | 40 => .array .int
  | 41 => .array .int
  | 42 => .array .int
  | 43 => .array .int
  | 44 => .array .int
  | 45 => .array .int
  | _ => .array .int
abbrev wsX110 : List Cond := u_ws RX11 TX11 47
theorem nmX11 : ∀ a, a < 47 → ∀ b, b < 47 → a ≠ b → (TX11 a).2.1 ≠ (TX11 b).2.1 := by decide +kernel
theorem tyX11_ok : ∀ k, k < 47 → parseFieldDescriptor (TX11 k).2.2.1 = some (tyX11 k) := by decide +kernel
abbrev cX11_init : ByteArray := prog_13_method_1_code
def yX11_init : MethodName := ⟨RX11, "<init>", "()V"⟩
abbrev cX11_lies : ByteArray := prog_13_method_2_code
def yX11_lies : MethodName := ⟨RX11, "lies", "(III)Z"⟩
abbrev cX11_push : ByteArray := prog_13_method_3_code
def yX11_push : MethodName := ⟨RX11, "push", "(I)V"⟩
abbrev cX11_feed : ByteArray := prog_13_method_4_code
def yX11_feed : MethodName := ⟨RX11, "feed", "(IIIII)I"⟩
abbrev cX11_at : ByteArray := prog_13_method_5_code
def yX11_at : MethodName := ⟨RX11, "at", "(II)I"⟩
abbrev cX11_reads : ByteArray := prog_13_method_6_code
def yX11_reads : MethodName := ⟨RX11, "reads", "(I)I"⟩
abbrev cX11_law : ByteArray := prog_13_method_7_code
def yX11_law : MethodName := ⟨RX11, "law", "(II)I"⟩
abbrev cX11_dutyOn : ByteArray := prog_13_method_8_code
def yX11_dutyOn : MethodName := ⟨RX11, "dutyOn", "(I)I"⟩
abbrev cX11_restOn : ByteArray := prog_13_method_9_code
def yX11_restOn : MethodName := ⟨RX11, "restOn", "(I)I"⟩
abbrev cX11_rule : ByteArray := prog_13_method_10_code
def yX11_rule : MethodName := ⟨RX11, "rule", "(II)I"⟩
abbrev cX11_minutes : ByteArray := prog_13_method_11_code
def yX11_minutes : MethodName := ⟨RX11, "minutes", "(II)I"⟩
abbrev cX11_areTwo : ByteArray := prog_13_method_12_code
def yX11_areTwo : MethodName := ⟨RX11, "areTwo", "(II)Z"⟩
abbrev cX11_way : ByteArray := prog_13_method_13_code
def yX11_way : MethodName := ⟨RX11, "way", "(III)Z"⟩
abbrev cX11_plane : ByteArray := prog_13_method_14_code
def yX11_plane : MethodName := ⟨RX11, "plane", "(IIII)I"⟩
abbrev cX11_there : ByteArray := prog_13_method_15_code
def yX11_there : MethodName := ⟨RX11, "there", "()I"⟩
abbrev cX11_flight : ByteArray := prog_13_method_16_code
def yX11_flight : MethodName := ⟨RX11, "flight", "(IIII)I"⟩
abbrev cX11_isFlight : ByteArray := prog_13_method_17_code
def yX11_isFlight : MethodName := ⟨RX11, "isFlight", "(I)Z"⟩
abbrev cX11_cancel : ByteArray := prog_13_method_18_code
def yX11_cancel : MethodName := ⟨RX11, "cancel", "(I)Z"⟩
abbrev cX11_storm : ByteArray := prog_13_method_19_code
def yX11_storm : MethodName := ⟨RX11, "storm", "(III)I"⟩
abbrev cX11_clock : ByteArray := prog_13_method_20_code
def yX11_clock : MethodName := ⟨RX11, "clock", "(I)Z"⟩
abbrev cX11_orders : ByteArray := prog_13_method_21_code
def yX11_orders : MethodName := ⟨RX11, "orders", "()V"⟩
abbrev cX11_adds : ByteArray := prog_13_method_22_code
def yX11_adds : MethodName := ⟨RX11, "adds", "(IIIIII)V"⟩
abbrev cX11_chains : ByteArray := prog_13_method_23_code
def yX11_chains : MethodName := ⟨RX11, "chains", "(II)V"⟩
abbrev cX11_isStorm : ByteArray := prog_13_method_24_code
def yX11_isStorm : MethodName := ⟨RX11, "isStorm", "(II)Z"⟩
abbrev cX11_holds : ByteArray := prog_13_method_25_code
def yX11_holds : MethodName := ⟨RX11, "holds", "(I)Z"⟩
abbrev cX11_emptyMinutes : ByteArray := prog_13_method_26_code
def yX11_emptyMinutes : MethodName := ⟨RX11, "emptyMinutes", "()I"⟩
abbrev cX11_works : ByteArray := prog_13_method_27_code
def yX11_works : MethodName := ⟨RX11, "works", "()V"⟩
abbrev cX11_isMoved : ByteArray := prog_13_method_28_code
def yX11_isMoved : MethodName := ⟨RX11, "isMoved", "(I)I"⟩
abbrev cX11_finds : ByteArray := prog_13_method_29_code
def yX11_finds : MethodName := ⟨RX11, "finds", "(Z)I"⟩
abbrev cX11_flown : ByteArray := prog_13_method_30_code
def yX11_flown : MethodName := ⟨RX11, "flown", "()I"⟩
abbrev cX11_plan : ByteArray := prog_13_method_31_code
def yX11_plan : MethodName := ⟨RX11, "plan", "()I"⟩
abbrev cX11_replan : ByteArray := prog_13_method_32_code
def yX11_replan : MethodName := ⟨RX11, "replan", "()I"⟩
abbrev cX11_hand : ByteArray := prog_13_method_33_code
def yX11_hand : MethodName := ⟨RX11, "hand", "(I)V"⟩
abbrev cX11_fits : ByteArray := prog_13_method_34_code
def yX11_fits : MethodName := ⟨RX11, "fits", "()I"⟩
abbrev cX11_on : ByteArray := prog_13_method_35_code
def yX11_on : MethodName := ⟨RX11, "on", "(I)I"⟩
abbrev cX11_move : ByteArray := prog_13_method_36_code
def yX11_move : MethodName := ⟨RX11, "move", "(III)I"⟩
abbrev cX11_isLeg : ByteArray := prog_13_method_37_code
def yX11_isLeg : MethodName := ⟨RX11, "isLeg", "(II)Z"⟩
abbrev cX11_hasLeg : ByteArray := prog_13_method_38_code
def yX11_hasLeg : MethodName := ⟨RX11, "hasLeg", "(I)Z"⟩
abbrev cX11_binds : ByteArray := prog_13_method_39_code
def yX11_binds : MethodName := ⟨RX11, "binds", "(I)Z"⟩
abbrev cX11_breaks : ByteArray := prog_13_method_40_code
def yX11_breaks : MethodName := ⟨RX11, "breaks", "()V"⟩
abbrev cX11_offer : ByteArray := prog_13_method_41_code
def yX11_offer : MethodName := ⟨RX11, "offer", "(IIII)I"⟩
abbrev cX11_take : ByteArray := prog_13_method_42_code
def yX11_take : MethodName := ⟨RX11, "take", "(II)Z"⟩
abbrev cX11_told : ByteArray := prog_13_method_43_code
def yX11_told : MethodName := ⟨RX11, "told", "(II)I"⟩
abbrev cX11_bill : ByteArray := prog_13_method_44_code
def yX11_bill : MethodName := ⟨RX11, "bill", "(I)J"⟩
abbrev cX11_look : ByteArray := prog_13_method_45_code
def yX11_look : MethodName := ⟨RX11, "look", "(II)I"⟩
abbrev cX11_count : ByteArray := prog_13_method_46_code
def yX11_count : MethodName := ⟨RX11, "count", "(I)I"⟩
def RL : String := "EmptyLegsLaw"
abbrev cL_law : ByteArray := code
def yL_law : MethodName := ⟨RL, "law", "([I)Z"⟩
abbrev vwCl : List vw_C := [(RX0, TX0, 10), (RX1, TX1, 8), (RX2, TX2, 7), (RX3, TX3, 8), (RX4, TX4, 5), (RX5, TX5, 13), (RX6, TX6, 4), (RX7, TX7, 4), (RX8, TX8, 2), (RX9, TX9, 1), (RX10, TX10, 10), (RX11, TX11, 47)]
end
section
theorem dX0_init_0 : decode cX0_init 0 = .ok (.aload_n 0, 1) := by decide +kernel
theorem dX0_init_1 : decode cX0_init 1 = .ok (.invokespecial 3, 3) := by decide +kernel
theorem dX0_init_4 : decode cX0_init 4 = .ok (.aload_n 0, 1) := by decide +kernel
theorem dX0_init_5 : decode cX0_init 5 = .ok (.aload_n 1, 1) := by decide +kernel
theorem dX0_init_6 : decode cX0_init 6 = .ok (.putfield 9, 3) := by decide +kernel
theorem dX0_init_9 : decode cX0_init 9 = .ok (.aload_n 0, 1) := by decide +kernel
theorem dX0_init_10 : decode cX0_init 10 = .ok (.aload_n 2, 1) := by decide +kernel
theorem dX0_init_11 : decode cX0_init 11 = .ok (.putfield 15, 3) := by decide +kernel
theorem dX0_init_14 : decode cX0_init 14 = .ok (.aload_n 0, 1) := by decide +kernel
theorem dX0_init_15 : decode cX0_init 15 = .ok (.aload_n 3, 1) := by decide +kernel
theorem dX0_init_16 : decode cX0_init 16 = .ok (.putfield 19, 3) := by decide +kernel
theorem dX0_init_19 : decode cX0_init 19 = .ok (.aload_n 0, 1) := by decide +kernel
theorem dX0_init_20 : decode cX0_init 20 = .ok (.aload 4, 2) := by decide +kernel
theorem dX0_init_22 : decode cX0_init 22 = .ok (.putfield 23, 3) := by decide +kernel
theorem dX0_init_25 : decode cX0_init 25 = .ok (.aload_n 0, 1) := by decide +kernel
theorem dX0_init_26 : decode cX0_init 26 = .ok (.aload 5, 2) := by decide +kernel
theorem dX0_init_28 : decode cX0_init 28 = .ok (.putfield 27, 3) := by decide +kernel
theorem dX0_init_31 : decode cX0_init 31 = .ok (.return_, 1) := by decide +kernel
theorem dX0_begin_0 : decode cX0_begin 0 = .ok (.aload_n 0, 1) := by decide +kernel
theorem dX0_begin_1 : decode cX0_begin 1 = .ok (.aload_n 0, 1) := by decide +kernel
theorem dX0_begin_2 : decode cX0_begin 2 = .ok (.getfield 9, 3) := by decide +kernel
theorem dX0_begin_5 : decode cX0_begin 5 = .ok (.iload_n 1, 1) := by decide +kernel
theorem dX0_begin_6 : decode cX0_begin 6 = .ok (.invokevirtual 31, 3) := by decide +kernel
theorem dX0_begin_9 : decode cX0_begin 9 = .ok (.putfield 37, 3) := by decide +kernel
theorem dX0_begin_12 : decode cX0_begin 12 = .ok (.aload_n 0, 1) := by decide +kernel
theorem dX0_begin_13 : decode cX0_begin 13 = .ok (.aload_n 0, 1) := by decide +kernel
theorem dX0_begin_14 : decode cX0_begin 14 = .ok (.getfield 9, 3) := by decide +kernel
theorem dX0_begin_17 : decode cX0_begin 17 = .ok (.iload_n 1, 1) := by decide +kernel
theorem dX0_begin_18 : decode cX0_begin 18 = .ok (.invokevirtual 41, 3) := by decide +kernel
theorem dX0_begin_21 : decode cX0_begin 21 = .ok (.putfield 44, 3) := by decide +kernel
theorem dX0_begin_24 : decode cX0_begin 24 = .ok (.aload_n 0, 1) := by decide +kernel
theorem dX0_begin_25 : decode cX0_begin 25 = .ok (.aload_n 0, 1) := by decide +kernel
theorem dX0_begin_26 : decode cX0_begin 26 = .ok (.getfield 9, 3) := by decide +kernel
theorem dX0_begin_29 : decode cX0_begin 29 = .ok (.iload_n 1, 1) := by decide +kernel
theorem dX0_begin_30 : decode cX0_begin 30 = .ok (.invokevirtual 47, 3) := by decide +kernel
theorem dX0_begin_33 : decode cX0_begin 33 = .ok (.iconst 0, 1) := by decide +kernel
theorem dX0_begin_34 : decode cX0_begin 34 = .ok (.iconst (-1), 1) := by decide +kernel
theorem dX0_begin_35 : decode cX0_begin 35 = .ok (.invokevirtual 50, 3) := by decide +kernel
theorem dX0_begin_38 : decode cX0_begin 38 = .ok (.return_, 1) := by decide +kernel
theorem dX0_resume_0 : decode cX0_resume 0 = .ok (.aload_n 0, 1) := by decide +kernel
theorem dX0_resume_1 : decode cX0_resume 1 = .ok (.iload_n 1, 1) := by decide +kernel
theorem dX0_resume_2 : decode cX0_resume 2 = .ok (.putfield 54, 3) := by decide +kernel
theorem dX0_resume_5 : decode cX0_resume 5 = .ok (.aload_n 0, 1) := by decide +kernel
theorem dX0_resume_6 : decode cX0_resume 6 = .ok (.iload_n 2, 1) := by decide +kernel
theorem dX0_resume_7 : decode cX0_resume 7 = .ok (.putfield 57, 3) := by decide +kernel
theorem dX0_resume_10 : decode cX0_resume 10 = .ok (.aload_n 0, 1) := by decide +kernel
theorem dX0_resume_11 : decode cX0_resume 11 = .ok (.iload_n 3, 1) := by decide +kernel
theorem dX0_resume_12 : decode cX0_resume 12 = .ok (.putfield 60, 3) := by decide +kernel
theorem dX0_resume_15 : decode cX0_resume 15 = .ok (.return_, 1) := by decide +kernel
theorem dX0_place_0 : decode cX0_place 0 = .ok (.aload_n 0, 1) := by decide +kernel
theorem dX0_place_1 : decode cX0_place 1 = .ok (.getfield 54, 3) := by decide +kernel
theorem dX0_place_4 : decode cX0_place 4 = .ok (.ireturn, 1) := by decide +kernel
theorem dX0_ended_0 : decode cX0_ended 0 = .ok (.aload_n 0, 1) := by decide +kernel
theorem dX0_ended_1 : decode cX0_ended 1 = .ok (.getfield 57, 3) := by decide +kernel
theorem dX0_ended_4 : decode cX0_ended 4 = .ok (.ireturn, 1) := by decide +kernel
theorem dX0_dutyBegan_0 : decode cX0_dutyBegan 0 = .ok (.aload_n 0, 1) := by decide +kernel
theorem dX0_dutyBegan_1 : decode cX0_dutyBegan 1 = .ok (.getfield 60, 3) := by decide +kernel
theorem dX0_dutyBegan_4 : decode cX0_dutyBegan 4 = .ok (.ireturn, 1) := by decide +kernel
theorem dX0_join_0 : decode cX0_join 0 = .ok (.aload_n 0, 1) := by decide +kernel
theorem dX0_join_1 : decode cX0_join 1 = .ok (.getfield 37, 3) := by decide +kernel
theorem dX0_join_4 : decode cX0_join 4 = .ok (.aload_n 0, 1) := by decide +kernel
theorem dX0_join_5 : decode cX0_join 5 = .ok (.getfield 15, 3) := by decide +kernel
theorem dX0_join_8 : decode cX0_join 8 = .ok (.iload_n 1, 1) := by decide +kernel
theorem dX0_join_9 : decode cX0_join 9 = .ok (.invokevirtual 63, 3) := by decide +kernel
theorem dX0_join_12 : decode cX0_join 12 = .ok (.if_icmp .ge 5, 3) := by decide +kernel
theorem dX0_join_15 : decode cX0_join 15 = .ok (.iconst (-1), 1) := by decide +kernel
theorem dX0_join_16 : decode cX0_join 16 = .ok (.ireturn, 1) := by decide +kernel
theorem dX0_join_17 : decode cX0_join 17 = .ok (.aload_n 0, 1) := by decide +kernel
theorem dX0_join_18 : decode cX0_join 18 = .ok (.getfield 15, 3) := by decide +kernel
theorem dX0_join_21 : decode cX0_join 21 = .ok (.iload_n 1, 1) := by decide +kernel
theorem dX0_join_22 : decode cX0_join 22 = .ok (.invokevirtual 66, 3) := by decide +kernel
theorem dX0_join_25 : decode cX0_join 25 = .ok (.istore_n 2, 1) := by decide +kernel
theorem dX0_join_26 : decode cX0_join 26 = .ok (.aload_n 0, 1) := by decide +kernel
theorem dX0_join_27 : decode cX0_join 27 = .ok (.getfield 15, 3) := by decide +kernel
theorem dX0_join_30 : decode cX0_join 30 = .ok (.iload_n 1, 1) := by decide +kernel
theorem dX0_join_31 : decode cX0_join 31 = .ok (.invokevirtual 69, 3) := by decide +kernel
theorem dX0_join_34 : decode cX0_join 34 = .ok (.istore_n 3, 1) := by decide +kernel
theorem dX0_join_35 : decode cX0_join 35 = .ok (.iconst 0, 1) := by decide +kernel
theorem dX0_join_36 : decode cX0_join 36 = .ok (.istore 4, 2) := by decide +kernel
theorem dX0_join_38 : decode cX0_join 38 = .ok (.aload_n 0, 1) := by decide +kernel
theorem dX0_join_39 : decode cX0_join 39 = .ok (.getfield 54, 3) := by decide +kernel
theorem dX0_join_42 : decode cX0_join 42 = .ok (.iload_n 2, 1) := by decide +kernel
theorem dX0_join_43 : decode cX0_join 43 = .ok (.if_icmp .eq 47, 3) := by decide +kernel
theorem dX0_join_46 : decode cX0_join 46 = .ok (.aload_n 0, 1) := by decide +kernel
theorem dX0_join_47 : decode cX0_join 47 = .ok (.getfield 19, 3) := by decide +kernel
theorem dX0_join_50 : decode cX0_join 50 = .ok (.aload_n 0, 1) := by decide +kernel
theorem dX0_join_51 : decode cX0_join 51 = .ok (.getfield 54, 3) := by decide +kernel
theorem dX0_join_54 : decode cX0_join 54 = .ok (.iload_n 2, 1) := by decide +kernel
theorem dX0_join_55 : decode cX0_join 55 = .ok (.invokevirtual 72, 3) := by decide +kernel
theorem dX0_join_58 : decode cX0_join 58 = .ok (.istore 4, 2) := by decide +kernel
theorem dX0_join_60 : decode cX0_join 60 = .ok (.iload_n 3, 1) := by decide +kernel
theorem dX0_join_61 : decode cX0_join 61 = .ok (.aload_n 0, 1) := by decide +kernel
theorem dX0_join_62 : decode cX0_join 62 = .ok (.getfield 44, 3) := by decide +kernel
theorem dX0_join_65 : decode cX0_join 65 = .ok (.isub, 1) := by decide +kernel
theorem dX0_join_66 : decode cX0_join 66 = .ok (.istore 5, 2) := by decide +kernel
theorem dX0_join_68 : decode cX0_join 68 = .ok (.iload 4, 2) := by decide +kernel
theorem dX0_join_70 : decode cX0_join 70 = .ok (.ifCond .eq 18, 3) := by decide +kernel
theorem dX0_join_73 : decode cX0_join 73 = .ok (.aload_n 0, 1) := by decide +kernel
theorem dX0_join_74 : decode cX0_join 74 = .ok (.iload_n 2, 1) := by decide +kernel
theorem dX0_join_75 : decode cX0_join 75 = .ok (.iload 5, 2) := by decide +kernel
theorem dX0_join_77 : decode cX0_join 77 = .ok (.iload 4, 2) := by decide +kernel
theorem dX0_join_79 : decode cX0_join 79 = .ok (.isub, 1) := by decide +kernel
theorem dX0_join_80 : decode cX0_join 80 = .ok (.iload 5, 2) := by decide +kernel
theorem dX0_join_82 : decode cX0_join 82 = .ok (.invokevirtual 78, 3) := by decide +kernel
theorem dX0_join_85 : decode cX0_join 85 = .ok (.ifCond .ne 5, 3) := by decide +kernel
theorem dX0_join_88 : decode cX0_join 88 = .ok (.iconst (-1), 1) := by decide +kernel
theorem dX0_join_89 : decode cX0_join 89 = .ok (.ireturn, 1) := by decide +kernel
theorem dX0_join_90 : decode cX0_join 90 = .ok (.aload_n 0, 1) := by decide +kernel
theorem dX0_join_91 : decode cX0_join 91 = .ok (.getfield 15, 3) := by decide +kernel
theorem dX0_join_94 : decode cX0_join 94 = .ok (.iload_n 1, 1) := by decide +kernel
theorem dX0_join_95 : decode cX0_join 95 = .ok (.invokevirtual 82, 3) := by decide +kernel
theorem dX0_join_98 : decode cX0_join 98 = .ok (.istore 5, 2) := by decide +kernel
theorem dX0_join_100 : decode cX0_join 100 = .ok (.aload_n 0, 1) := by decide +kernel
theorem dX0_join_101 : decode cX0_join 101 = .ok (.iload 5, 2) := by decide +kernel
theorem dX0_join_103 : decode cX0_join 103 = .ok (.iload_n 3, 1) := by decide +kernel
theorem dX0_join_104 : decode cX0_join 104 = .ok (.iload_n 3, 1) := by decide +kernel
theorem dX0_join_105 : decode cX0_join 105 = .ok (.aload_n 0, 1) := by decide +kernel
theorem dX0_join_106 : decode cX0_join 106 = .ok (.getfield 19, 3) := by decide +kernel
theorem dX0_join_109 : decode cX0_join 109 = .ok (.iload_n 2, 1) := by decide +kernel
theorem dX0_join_110 : decode cX0_join 110 = .ok (.iload 5, 2) := by decide +kernel
theorem dX0_join_112 : decode cX0_join 112 = .ok (.invokevirtual 72, 3) := by decide +kernel
theorem dX0_join_115 : decode cX0_join 115 = .ok (.iadd, 1) := by decide +kernel
theorem dX0_join_116 : decode cX0_join 116 = .ok (.invokevirtual 78, 3) := by decide +kernel
theorem dX0_join_119 : decode cX0_join 119 = .ok (.ifCond .eq 8, 3) := by decide +kernel
theorem dX0_join_122 : decode cX0_join 122 = .ok (.iload 4, 2) := by decide +kernel
theorem dX0_join_124 : decode cX0_join 124 = .ok (.goto 4, 3) := by decide +kernel
theorem dX0_join_127 : decode cX0_join 127 = .ok (.iconst (-1), 1) := by decide +kernel
theorem dX0_join_128 : decode cX0_join 128 = .ok (.ireturn, 1) := by decide +kernel
theorem dX0_goes_0 : decode cX0_goes 0 = .ok (.aload_n 0, 1) := by decide +kernel
theorem dX0_goes_1 : decode cX0_goes 1 = .ok (.getfield 60, 3) := by decide +kernel
theorem dX0_goes_4 : decode cX0_goes 4 = .ok (.iconst (-1), 1) := by decide +kernel
theorem dX0_goes_5 : decode cX0_goes 5 = .ok (.if_icmp .ne 7, 3) := by decide +kernel
theorem dX0_goes_8 : decode cX0_goes 8 = .ok (.iconst 1, 1) := by decide +kernel
theorem dX0_goes_9 : decode cX0_goes 9 = .ok (.goto 4, 3) := by decide +kernel
theorem dX0_goes_12 : decode cX0_goes 12 = .ok (.iconst 0, 1) := by decide +kernel
theorem dX0_goes_13 : decode cX0_goes 13 = .ok (.istore 4, 2) := by decide +kernel
theorem dX0_goes_15 : decode cX0_goes 15 = .ok (.iload_n 2, 1) := by decide +kernel
theorem dX0_goes_16 : decode cX0_goes 16 = .ok (.invokestatic 85, 3) := by decide +kernel
theorem dX0_goes_19 : decode cX0_goes 19 = .ok (.ifCond .eq 10, 3) := by decide +kernel
theorem dX0_goes_22 : decode cX0_goes 22 = .ok (.iload_n 3, 1) := by decide +kernel
theorem dX0_goes_23 : decode cX0_goes 23 = .ok (.invokestatic 85, 3) := by decide +kernel
theorem dX0_goes_26 : decode cX0_goes 26 = .ok (.ifCond .ne 5, 3) := by decide +kernel
theorem dX0_goes_29 : decode cX0_goes 29 = .ok (.iconst 0, 1) := by decide +kernel
theorem dX0_goes_30 : decode cX0_goes 30 = .ok (.ireturn, 1) := by decide +kernel
theorem dX0_goes_31 : decode cX0_goes 31 = .ok (.iload 4, 2) := by decide +kernel
theorem dX0_goes_33 : decode cX0_goes 33 = .ok (.ifCond .ne 18, 3) := by decide +kernel
theorem dX0_goes_36 : decode cX0_goes 36 = .ok (.iload_n 2, 1) := by decide +kernel
theorem dX0_goes_37 : decode cX0_goes 37 = .ok (.aload_n 0, 1) := by decide +kernel
theorem dX0_goes_38 : decode cX0_goes 38 = .ok (.getfield 57, 3) := by decide +kernel
theorem dX0_goes_41 : decode cX0_goes 41 = .ok (.aload_n 0, 1) := by decide +kernel
theorem dX0_goes_42 : decode cX0_goes 42 = .ok (.getfield 44, 3) := by decide +kernel
theorem dX0_goes_45 : decode cX0_goes 45 = .ok (.iadd, 1) := by decide +kernel
theorem dX0_goes_46 : decode cX0_goes 46 = .ok (.if_icmp .ge 5, 3) := by decide +kernel
theorem dX0_goes_49 : decode cX0_goes 49 = .ok (.iconst 0, 1) := by decide +kernel
theorem dX0_goes_50 : decode cX0_goes 50 = .ok (.ireturn, 1) := by decide +kernel
theorem dX0_goes_51 : decode cX0_goes 51 = .ok (.aload_n 0, 1) := by decide +kernel
theorem dX0_goes_52 : decode cX0_goes 52 = .ok (.getfield 23, 3) := by decide +kernel
theorem dX0_goes_55 : decode cX0_goes 55 = .ok (.aload_n 0, 1) := by decide +kernel
theorem dX0_goes_56 : decode cX0_goes 56 = .ok (.getfield 54, 3) := by decide +kernel
theorem dX0_goes_59 : decode cX0_goes 59 = .ok (.iload_n 2, 1) := by decide +kernel
theorem dX0_goes_60 : decode cX0_goes 60 = .ok (.invokevirtual 89, 3) := by decide +kernel
theorem dX0_goes_63 : decode cX0_goes 63 = .ok (.ifCond .ne 15, 3) := by decide +kernel
theorem dX0_goes_66 : decode cX0_goes 66 = .ok (.aload_n 0, 1) := by decide +kernel
theorem dX0_goes_67 : decode cX0_goes 67 = .ok (.getfield 23, 3) := by decide +kernel
theorem dX0_goes_70 : decode cX0_goes 70 = .ok (.iload_n 1, 1) := by decide +kernel
theorem dX0_goes_71 : decode cX0_goes 71 = .ok (.iload_n 3, 1) := by decide +kernel
theorem dX0_goes_72 : decode cX0_goes 72 = .ok (.invokevirtual 89, 3) := by decide +kernel
theorem dX0_goes_75 : decode cX0_goes 75 = .ok (.ifCond .eq 5, 3) := by decide +kernel
theorem dX0_goes_78 : decode cX0_goes 78 = .ok (.iconst 0, 1) := by decide +kernel
theorem dX0_goes_79 : decode cX0_goes 79 = .ok (.ireturn, 1) := by decide +kernel
theorem dX0_goes_80 : decode cX0_goes 80 = .ok (.iload 4, 2) := by decide +kernel
theorem dX0_goes_82 : decode cX0_goes 82 = .ok (.ifCond .ne 27, 3) := by decide +kernel
theorem dX0_goes_85 : decode cX0_goes 85 = .ok (.iload_n 2, 1) := by decide +kernel
theorem dX0_goes_86 : decode cX0_goes 86 = .ok (.aload_n 0, 1) := by decide +kernel
theorem dX0_goes_87 : decode cX0_goes 87 = .ok (.getfield 57, 3) := by decide +kernel
theorem dX0_goes_90 : decode cX0_goes 90 = .ok (.isub, 1) := by decide +kernel
theorem dX0_goes_91 : decode cX0_goes 91 = .ok (.aload_n 0, 1) := by decide +kernel
theorem dX0_goes_92 : decode cX0_goes 92 = .ok (.getfield 27, 3) := by decide +kernel
theorem dX0_goes_95 : decode cX0_goes 95 = .ok (.aload_n 0, 1) := by decide +kernel
theorem dX0_goes_96 : decode cX0_goes 96 = .ok (.getfield 60, 3) := by decide +kernel
theorem dX0_goes_99 : decode cX0_goes 99 = .ok (.sipush 1440, 3) := by decide +kernel
theorem dX0_goes_102 : decode cX0_goes 102 = .ok (.idiv, 1) := by decide +kernel
theorem dX0_goes_103 : decode cX0_goes 103 = .ok (.invokevirtual 95, 3) := by decide +kernel
theorem dX0_goes_106 : decode cX0_goes 106 = .ok (.if_icmp .lt 8, 3) := by decide +kernel
theorem dX0_goes_109 : decode cX0_goes 109 = .ok (.aload_n 0, 1) := by decide +kernel
theorem dX0_goes_110 : decode cX0_goes 110 = .ok (.iload_n 2, 1) := by decide +kernel
theorem dX0_goes_111 : decode cX0_goes 111 = .ok (.putfield 60, 3) := by decide +kernel
theorem dX0_goes_114 : decode cX0_goes 114 = .ok (.aload_n 0, 1) := by decide +kernel
theorem dX0_goes_115 : decode cX0_goes 115 = .ok (.iload_n 1, 1) := by decide +kernel
theorem dX0_goes_116 : decode cX0_goes 116 = .ok (.putfield 54, 3) := by decide +kernel
theorem dX0_goes_119 : decode cX0_goes 119 = .ok (.aload_n 0, 1) := by decide +kernel
theorem dX0_goes_120 : decode cX0_goes 120 = .ok (.iload_n 3, 1) := by decide +kernel
theorem dX0_goes_121 : decode cX0_goes 121 = .ok (.putfield 57, 3) := by decide +kernel
theorem dX0_goes_124 : decode cX0_goes 124 = .ok (.iload_n 3, 1) := by decide +kernel
theorem dX0_goes_125 : decode cX0_goes 125 = .ok (.aload_n 0, 1) := by decide +kernel
theorem dX0_goes_126 : decode cX0_goes 126 = .ok (.getfield 60, 3) := by decide +kernel
theorem dX0_goes_129 : decode cX0_goes 129 = .ok (.isub, 1) := by decide +kernel
theorem dX0_goes_130 : decode cX0_goes 130 = .ok (.aload_n 0, 1) := by decide +kernel
theorem dX0_goes_131 : decode cX0_goes 131 = .ok (.getfield 27, 3) := by decide +kernel
theorem dX0_goes_134 : decode cX0_goes 134 = .ok (.aload_n 0, 1) := by decide +kernel
theorem dX0_goes_135 : decode cX0_goes 135 = .ok (.getfield 60, 3) := by decide +kernel
theorem dX0_goes_138 : decode cX0_goes 138 = .ok (.sipush 1440, 3) := by decide +kernel
theorem dX0_goes_141 : decode cX0_goes 141 = .ok (.idiv, 1) := by decide +kernel
theorem dX0_goes_142 : decode cX0_goes 142 = .ok (.invokevirtual 100, 3) := by decide +kernel
theorem dX0_goes_145 : decode cX0_goes 145 = .ok (.if_icmp .gt 7, 3) := by decide +kernel
theorem dX0_goes_148 : decode cX0_goes 148 = .ok (.iconst 1, 1) := by decide +kernel
theorem dX0_goes_149 : decode cX0_goes 149 = .ok (.goto 4, 3) := by decide +kernel
theorem dX0_goes_152 : decode cX0_goes 152 = .ok (.iconst 0, 1) := by decide +kernel
theorem dX0_goes_153 : decode cX0_goes 153 = .ok (.ireturn, 1) := by decide +kernel
theorem dX1_init_0 : decode cX1_init 0 = .ok (.aload_n 0, 1) := by decide +kernel
theorem dX1_init_1 : decode cX1_init 1 = .ok (.invokespecial 3, 3) := by decide +kernel
theorem dX1_init_4 : decode cX1_init 4 = .ok (.aload_n 0, 1) := by decide +kernel
theorem dX1_init_5 : decode cX1_init 5 = .ok (.bipush 20, 2) := by decide +kernel
theorem dX1_init_7 : decode cX1_init 7 = .ok (.newarray .int, 2) := by decide +kernel
theorem dX1_init_9 : decode cX1_init 9 = .ok (.putfield 11, 3) := by decide +kernel
theorem dX1_init_12 : decode cX1_init 12 = .ok (.aload_n 0, 1) := by decide +kernel
theorem dX1_init_13 : decode cX1_init 13 = .ok (.bipush 20, 2) := by decide +kernel
theorem dX1_init_15 : decode cX1_init 15 = .ok (.newarray .int, 2) := by decide +kernel
theorem dX1_init_17 : decode cX1_init 17 = .ok (.putfield 15, 3) := by decide +kernel
theorem dX1_init_20 : decode cX1_init 20 = .ok (.aload_n 0, 1) := by decide +kernel
theorem dX1_init_21 : decode cX1_init 21 = .ok (.bipush 20, 2) := by decide +kernel
theorem dX1_init_23 : decode cX1_init 23 = .ok (.newarray .int, 2) := by decide +kernel
theorem dX1_init_25 : decode cX1_init 25 = .ok (.putfield 18, 3) := by decide +kernel
theorem dX1_init_28 : decode cX1_init 28 = .ok (.aload_n 0, 1) := by decide +kernel
theorem dX1_init_29 : decode cX1_init 29 = .ok (.bipush 20, 2) := by decide +kernel
theorem dX1_init_31 : decode cX1_init 31 = .ok (.newarray .int, 2) := by decide +kernel
theorem dX1_init_33 : decode cX1_init 33 = .ok (.putfield 21, 3) := by decide +kernel
theorem dX1_init_36 : decode cX1_init 36 = .ok (.aload_n 0, 1) := by decide +kernel
theorem dX1_init_37 : decode cX1_init 37 = .ok (.bipush 20, 2) := by decide +kernel
theorem dX1_init_39 : decode cX1_init 39 = .ok (.newarray .boolean, 2) := by decide +kernel
theorem dX1_init_41 : decode cX1_init 41 = .ok (.putfield 24, 3) := by decide +kernel
theorem dX1_init_44 : decode cX1_init 44 = .ok (.aload_n 0, 1) := by decide +kernel
theorem dX1_init_45 : decode cX1_init 45 = .ok (.bipush 20, 2) := by decide +kernel
theorem dX1_init_47 : decode cX1_init 47 = .ok (.newarray .int, 2) := by decide +kernel
theorem dX1_init_49 : decode cX1_init 49 = .ok (.putfield 28, 3) := by decide +kernel
theorem dX1_init_52 : decode cX1_init 52 = .ok (.return_, 1) := by decide +kernel
theorem dX1_add_0 : decode cX1_add 0 = .ok (.aload_n 0, 1) := by decide +kernel
theorem dX1_add_1 : decode cX1_add 1 = .ok (.getfield 31, 3) := by decide +kernel
theorem dX1_add_4 : decode cX1_add 4 = .ok (.bipush 20, 2) := by decide +kernel
theorem dX1_add_6 : decode cX1_add 6 = .ok (.if_icmp .ge 12, 3) := by decide +kernel
theorem dX1_add_9 : decode cX1_add 9 = .ok (.aload_n 0, 1) := by decide +kernel
theorem dX1_add_10 : decode cX1_add 10 = .ok (.getfield 35, 3) := by decide +kernel
theorem dX1_add_13 : decode cX1_add 13 = .ok (.bipush 8, 2) := by decide +kernel
theorem dX1_add_15 : decode cX1_add 15 = .ok (.if_icmp .lt 5, 3) := by decide +kernel
theorem dX1_add_18 : decode cX1_add 18 = .ok (.iconst (-1), 1) := by decide +kernel
theorem dX1_add_19 : decode cX1_add 19 = .ok (.ireturn, 1) := by decide +kernel
theorem dX1_add_20 : decode cX1_add 20 = .ok (.aload_n 0, 1) := by decide +kernel
theorem dX1_add_21 : decode cX1_add 21 = .ok (.getfield 11, 3) := by decide +kernel
theorem dX1_add_24 : decode cX1_add 24 = .ok (.aload_n 0, 1) := by decide +kernel
theorem dX1_add_25 : decode cX1_add 25 = .ok (.getfield 31, 3) := by decide +kernel
theorem dX1_add_28 : decode cX1_add 28 = .ok (.iload_n 1, 1) := by decide +kernel
theorem dX1_add_29 : decode cX1_add 29 = .ok (.iastore, 1) := by decide +kernel
theorem dX1_add_30 : decode cX1_add 30 = .ok (.aload_n 0, 1) := by decide +kernel
theorem dX1_add_31 : decode cX1_add 31 = .ok (.getfield 15, 3) := by decide +kernel
theorem dX1_add_34 : decode cX1_add 34 = .ok (.aload_n 0, 1) := by decide +kernel
theorem dX1_add_35 : decode cX1_add 35 = .ok (.getfield 31, 3) := by decide +kernel
theorem dX1_add_38 : decode cX1_add 38 = .ok (.iload_n 2, 1) := by decide +kernel
theorem dX1_add_39 : decode cX1_add 39 = .ok (.iastore, 1) := by decide +kernel
theorem dX1_add_40 : decode cX1_add 40 = .ok (.aload_n 0, 1) := by decide +kernel
theorem dX1_add_41 : decode cX1_add 41 = .ok (.getfield 18, 3) := by decide +kernel
theorem dX1_add_44 : decode cX1_add 44 = .ok (.aload_n 0, 1) := by decide +kernel
theorem dX1_add_45 : decode cX1_add 45 = .ok (.getfield 31, 3) := by decide +kernel
theorem dX1_add_48 : decode cX1_add 48 = .ok (.iload_n 3, 1) := by decide +kernel
theorem dX1_add_49 : decode cX1_add 49 = .ok (.iastore, 1) := by decide +kernel
theorem dX1_add_50 : decode cX1_add 50 = .ok (.aload_n 0, 1) := by decide +kernel
theorem dX1_add_51 : decode cX1_add 51 = .ok (.getfield 21, 3) := by decide +kernel
theorem dX1_add_54 : decode cX1_add 54 = .ok (.aload_n 0, 1) := by decide +kernel
theorem dX1_add_55 : decode cX1_add 55 = .ok (.getfield 31, 3) := by decide +kernel
theorem dX1_add_58 : decode cX1_add 58 = .ok (.iload 4, 2) := by decide +kernel
theorem dX1_add_60 : decode cX1_add 60 = .ok (.iastore, 1) := by decide +kernel
theorem dX1_add_61 : decode cX1_add 61 = .ok (.aload_n 0, 1) := by decide +kernel
theorem dX1_add_62 : decode cX1_add 62 = .ok (.getfield 24, 3) := by decide +kernel
theorem dX1_add_65 : decode cX1_add 65 = .ok (.aload_n 0, 1) := by decide +kernel
theorem dX1_add_66 : decode cX1_add 66 = .ok (.getfield 31, 3) := by decide +kernel
theorem dX1_add_69 : decode cX1_add 69 = .ok (.iconst 0, 1) := by decide +kernel
theorem dX1_add_70 : decode cX1_add 70 = .ok (.bastore, 1) := by decide +kernel
theorem dX1_add_71 : decode cX1_add 71 = .ok (.aload_n 0, 1) := by decide +kernel
theorem dX1_add_72 : decode cX1_add 72 = .ok (.aload_n 0, 1) := by decide +kernel
theorem dX1_add_73 : decode cX1_add 73 = .ok (.getfield 31, 3) := by decide +kernel
theorem dX1_add_76 : decode cX1_add 76 = .ok (.iload_n 3, 1) := by decide +kernel
theorem dX1_add_77 : decode cX1_add 77 = .ok (.invokevirtual 38, 3) := by decide +kernel
theorem dX1_add_80 : decode cX1_add 80 = .ok (.aload_n 0, 1) := by decide +kernel
theorem dX1_add_81 : decode cX1_add 81 = .ok (.dup, 1) := by decide +kernel
theorem dX1_add_82 : decode cX1_add 82 = .ok (.getfield 31, 3) := by decide +kernel
theorem dX1_add_85 : decode cX1_add 85 = .ok (.iconst 1, 1) := by decide +kernel
theorem dX1_add_86 : decode cX1_add 86 = .ok (.iadd, 1) := by decide +kernel
theorem dX1_add_87 : decode cX1_add 87 = .ok (.putfield 31, 3) := by decide +kernel
theorem dX1_add_90 : decode cX1_add 90 = .ok (.aload_n 0, 1) := by decide +kernel
theorem dX1_add_91 : decode cX1_add 91 = .ok (.dup, 1) := by decide +kernel
theorem dX1_add_92 : decode cX1_add 92 = .ok (.getfield 35, 3) := by decide +kernel
theorem dX1_add_95 : decode cX1_add 95 = .ok (.iconst 1, 1) := by decide +kernel
theorem dX1_add_96 : decode cX1_add 96 = .ok (.iadd, 1) := by decide +kernel
theorem dX1_add_97 : decode cX1_add 97 = .ok (.putfield 35, 3) := by decide +kernel
theorem dX1_add_100 : decode cX1_add 100 = .ok (.aload_n 0, 1) := by decide +kernel
theorem dX1_add_101 : decode cX1_add 101 = .ok (.getfield 31, 3) := by decide +kernel
theorem dX1_add_104 : decode cX1_add 104 = .ok (.iconst 1, 1) := by decide +kernel
theorem dX1_add_105 : decode cX1_add 105 = .ok (.isub, 1) := by decide +kernel
theorem dX1_add_106 : decode cX1_add 106 = .ok (.ireturn, 1) := by decide +kernel
theorem dX1_lineUp_0 : decode cX1_lineUp 0 = .ok (.iload_n 1, 1) := by decide +kernel
theorem dX1_lineUp_1 : decode cX1_lineUp 1 = .ok (.istore_n 3, 1) := by decide +kernel
theorem dX1_lineUp_2 : decode cX1_lineUp 2 = .ok (.iload_n 1, 1) := by decide +kernel
theorem dX1_lineUp_3 : decode cX1_lineUp 3 = .ok (.iconst 1, 1) := by decide +kernel
theorem dX1_lineUp_4 : decode cX1_lineUp 4 = .ok (.isub, 1) := by decide +kernel
theorem dX1_lineUp_5 : decode cX1_lineUp 5 = .ok (.istore 4, 2) := by decide +kernel
theorem dX1_lineUp_7 : decode cX1_lineUp 7 = .ok (.iload 4, 2) := by decide +kernel
theorem dX1_lineUp_9 : decode cX1_lineUp 9 = .ok (.ifCond .lt 46, 3) := by decide +kernel
theorem dX1_lineUp_12 : decode cX1_lineUp 12 = .ok (.aload_n 0, 1) := by decide +kernel
theorem dX1_lineUp_13 : decode cX1_lineUp 13 = .ok (.aload_n 0, 1) := by decide +kernel
theorem dX1_lineUp_14 : decode cX1_lineUp 14 = .ok (.getfield 28, 3) := by decide +kernel
theorem dX1_lineUp_17 : decode cX1_lineUp 17 = .ok (.iload 4, 2) := by decide +kernel
theorem dX1_lineUp_19 : decode cX1_lineUp 19 = .ok (.iaload, 1) := by decide +kernel
theorem dX1_lineUp_20 : decode cX1_lineUp 20 = .ok (.invokevirtual 42, 3) := by decide +kernel
theorem dX1_lineUp_23 : decode cX1_lineUp 23 = .ok (.iload_n 2, 1) := by decide +kernel
theorem dX1_lineUp_24 : decode cX1_lineUp 24 = .ok (.if_icmp .gt 6, 3) := by decide +kernel
theorem dX1_lineUp_27 : decode cX1_lineUp 27 = .ok (.goto 28, 3) := by decide +kernel
theorem dX1_lineUp_30 : decode cX1_lineUp 30 = .ok (.aload_n 0, 1) := by decide +kernel
theorem dX1_lineUp_31 : decode cX1_lineUp 31 = .ok (.getfield 28, 3) := by decide +kernel
theorem dX1_lineUp_34 : decode cX1_lineUp 34 = .ok (.iload 4, 2) := by decide +kernel
theorem dX1_lineUp_36 : decode cX1_lineUp 36 = .ok (.iconst 1, 1) := by decide +kernel
theorem dX1_lineUp_37 : decode cX1_lineUp 37 = .ok (.iadd, 1) := by decide +kernel
theorem dX1_lineUp_38 : decode cX1_lineUp 38 = .ok (.aload_n 0, 1) := by decide +kernel
theorem dX1_lineUp_39 : decode cX1_lineUp 39 = .ok (.getfield 28, 3) := by decide +kernel
theorem dX1_lineUp_42 : decode cX1_lineUp 42 = .ok (.iload 4, 2) := by decide +kernel
theorem dX1_lineUp_44 : decode cX1_lineUp 44 = .ok (.iaload, 1) := by decide +kernel
theorem dX1_lineUp_45 : decode cX1_lineUp 45 = .ok (.iastore, 1) := by decide +kernel
theorem dX1_lineUp_46 : decode cX1_lineUp 46 = .ok (.iload 4, 2) := by decide +kernel
theorem dX1_lineUp_48 : decode cX1_lineUp 48 = .ok (.istore_n 3, 1) := by decide +kernel
theorem dX1_lineUp_49 : decode cX1_lineUp 49 = .ok (.iinc 4 (-1), 3) := by decide +kernel
theorem dX1_lineUp_52 : decode cX1_lineUp 52 = .ok (.goto (-45), 3) := by decide +kernel
theorem dX1_lineUp_55 : decode cX1_lineUp 55 = .ok (.aload_n 0, 1) := by decide +kernel
theorem dX1_lineUp_56 : decode cX1_lineUp 56 = .ok (.getfield 28, 3) := by decide +kernel
theorem dX1_lineUp_59 : decode cX1_lineUp 59 = .ok (.iload_n 3, 1) := by decide +kernel
theorem dX1_lineUp_60 : decode cX1_lineUp 60 = .ok (.iload_n 1, 1) := by decide +kernel
theorem dX1_lineUp_61 : decode cX1_lineUp 61 = .ok (.iastore, 1) := by decide +kernel
theorem dX1_lineUp_62 : decode cX1_lineUp 62 = .ok (.return_, 1) := by decide +kernel
theorem dX1_strike_0 : decode cX1_strike 0 = .ok (.aload_n 0, 1) := by decide +kernel
theorem dX1_strike_1 : decode cX1_strike 1 = .ok (.iload_n 1, 1) := by decide +kernel
theorem dX1_strike_2 : decode cX1_strike 2 = .ok (.invokevirtual 46, 3) := by decide +kernel
theorem dX1_strike_5 : decode cX1_strike 5 = .ok (.ifCond .eq 20, 3) := by decide +kernel
theorem dX1_strike_8 : decode cX1_strike 8 = .ok (.aload_n 0, 1) := by decide +kernel
theorem dX1_strike_9 : decode cX1_strike 9 = .ok (.getfield 24, 3) := by decide +kernel
theorem dX1_strike_12 : decode cX1_strike 12 = .ok (.iload_n 1, 1) := by decide +kernel
theorem dX1_strike_13 : decode cX1_strike 13 = .ok (.iconst 1, 1) := by decide +kernel
theorem dX1_strike_14 : decode cX1_strike 14 = .ok (.bastore, 1) := by decide +kernel
theorem dX1_strike_15 : decode cX1_strike 15 = .ok (.aload_n 0, 1) := by decide +kernel
theorem dX1_strike_16 : decode cX1_strike 16 = .ok (.dup, 1) := by decide +kernel
theorem dX1_strike_17 : decode cX1_strike 17 = .ok (.getfield 35, 3) := by decide +kernel
theorem dX1_strike_20 : decode cX1_strike 20 = .ok (.iconst 1, 1) := by decide +kernel
theorem dX1_strike_21 : decode cX1_strike 21 = .ok (.isub, 1) := by decide +kernel
theorem dX1_strike_22 : decode cX1_strike 22 = .ok (.putfield 35, 3) := by decide +kernel
theorem dX1_strike_25 : decode cX1_strike 25 = .ok (.return_, 1) := by decide +kernel
theorem dX1_size_0 : decode cX1_size 0 = .ok (.aload_n 0, 1) := by decide +kernel
theorem dX1_size_1 : decode cX1_size 1 = .ok (.getfield 31, 3) := by decide +kernel
theorem dX1_size_4 : decode cX1_size 4 = .ok (.ireturn, 1) := by decide +kernel
theorem dX1_live_0 : decode cX1_live 0 = .ok (.aload_n 0, 1) := by decide +kernel
theorem dX1_live_1 : decode cX1_live 1 = .ok (.getfield 35, 3) := by decide +kernel
theorem dX1_live_4 : decode cX1_live 4 = .ok (.ireturn, 1) := by decide +kernel
theorem dX1_has_0 : decode cX1_has 0 = .ok (.iload_n 1, 1) := by decide +kernel
theorem dX1_has_1 : decode cX1_has 1 = .ok (.ifCond .lt 15, 3) := by decide +kernel
theorem dX1_has_4 : decode cX1_has 4 = .ok (.iload_n 1, 1) := by decide +kernel
theorem dX1_has_5 : decode cX1_has 5 = .ok (.aload_n 0, 1) := by decide +kernel
theorem dX1_has_6 : decode cX1_has 6 = .ok (.getfield 31, 3) := by decide +kernel
theorem dX1_has_9 : decode cX1_has 9 = .ok (.if_icmp .ge 7, 3) := by decide +kernel
theorem dX1_has_12 : decode cX1_has 12 = .ok (.iconst 1, 1) := by decide +kernel
theorem dX1_has_13 : decode cX1_has 13 = .ok (.goto 4, 3) := by decide +kernel
theorem dX1_has_16 : decode cX1_has 16 = .ok (.iconst 0, 1) := by decide +kernel
theorem dX1_has_17 : decode cX1_has 17 = .ok (.ireturn, 1) := by decide +kernel
theorem dX1_isLive_0 : decode cX1_isLive 0 = .ok (.aload_n 0, 1) := by decide +kernel
theorem dX1_isLive_1 : decode cX1_isLive 1 = .ok (.iload_n 1, 1) := by decide +kernel
theorem dX1_isLive_2 : decode cX1_isLive 2 = .ok (.invokevirtual 50, 3) := by decide +kernel
theorem dX1_isLive_5 : decode cX1_isLive 5 = .ok (.ifCond .eq 16, 3) := by decide +kernel
theorem dX1_isLive_8 : decode cX1_isLive 8 = .ok (.aload_n 0, 1) := by decide +kernel
theorem dX1_isLive_9 : decode cX1_isLive 9 = .ok (.getfield 24, 3) := by decide +kernel
theorem dX1_isLive_12 : decode cX1_isLive 12 = .ok (.iload_n 1, 1) := by decide +kernel
theorem dX1_isLive_13 : decode cX1_isLive 13 = .ok (.baload, 1) := by decide +kernel
theorem dX1_isLive_14 : decode cX1_isLive 14 = .ok (.ifCond .ne 7, 3) := by decide +kernel
theorem dX1_isLive_17 : decode cX1_isLive 17 = .ok (.iconst 1, 1) := by decide +kernel
theorem dX1_isLive_18 : decode cX1_isLive 18 = .ok (.goto 4, 3) := by decide +kernel
theorem dX1_isLive_21 : decode cX1_isLive 21 = .ok (.iconst 0, 1) := by decide +kernel
theorem dX1_isLive_22 : decode cX1_isLive 22 = .ok (.ireturn, 1) := by decide +kernel
theorem dX1_inOrder_0 : decode cX1_inOrder 0 = .ok (.iload_n 1, 1) := by decide +kernel
theorem dX1_inOrder_1 : decode cX1_inOrder 1 = .ok (.ifCond .lt 20, 3) := by decide +kernel
theorem dX1_inOrder_4 : decode cX1_inOrder 4 = .ok (.iload_n 1, 1) := by decide +kernel
theorem dX1_inOrder_5 : decode cX1_inOrder 5 = .ok (.aload_n 0, 1) := by decide +kernel
theorem dX1_inOrder_6 : decode cX1_inOrder 6 = .ok (.getfield 31, 3) := by decide +kernel
theorem dX1_inOrder_9 : decode cX1_inOrder 9 = .ok (.if_icmp .ge 12, 3) := by decide +kernel
theorem dX1_inOrder_12 : decode cX1_inOrder 12 = .ok (.aload_n 0, 1) := by decide +kernel
theorem dX1_inOrder_13 : decode cX1_inOrder 13 = .ok (.getfield 28, 3) := by decide +kernel
theorem dX1_inOrder_16 : decode cX1_inOrder 16 = .ok (.iload_n 1, 1) := by decide +kernel
theorem dX1_inOrder_17 : decode cX1_inOrder 17 = .ok (.iaload, 1) := by decide +kernel
theorem dX1_inOrder_18 : decode cX1_inOrder 18 = .ok (.goto 4, 3) := by decide +kernel
theorem dX1_inOrder_21 : decode cX1_inOrder 21 = .ok (.iconst (-1), 1) := by decide +kernel
theorem dX1_inOrder_22 : decode cX1_inOrder 22 = .ok (.ireturn, 1) := by decide +kernel
theorem dX1_fromOf_0 : decode cX1_fromOf 0 = .ok (.aload_n 0, 1) := by decide +kernel
theorem dX1_fromOf_1 : decode cX1_fromOf 1 = .ok (.iload_n 1, 1) := by decide +kernel
theorem dX1_fromOf_2 : decode cX1_fromOf 2 = .ok (.invokevirtual 50, 3) := by decide +kernel
theorem dX1_fromOf_5 : decode cX1_fromOf 5 = .ok (.ifCond .eq 12, 3) := by decide +kernel
theorem dX1_fromOf_8 : decode cX1_fromOf 8 = .ok (.aload_n 0, 1) := by decide +kernel
theorem dX1_fromOf_9 : decode cX1_fromOf 9 = .ok (.getfield 11, 3) := by decide +kernel
theorem dX1_fromOf_12 : decode cX1_fromOf 12 = .ok (.iload_n 1, 1) := by decide +kernel
theorem dX1_fromOf_13 : decode cX1_fromOf 13 = .ok (.iaload, 1) := by decide +kernel
theorem dX1_fromOf_14 : decode cX1_fromOf 14 = .ok (.goto 4, 3) := by decide +kernel
theorem dX1_fromOf_17 : decode cX1_fromOf 17 = .ok (.iconst (-1), 1) := by decide +kernel
theorem dX1_fromOf_18 : decode cX1_fromOf 18 = .ok (.ireturn, 1) := by decide +kernel
theorem dX1_toOf_0 : decode cX1_toOf 0 = .ok (.aload_n 0, 1) := by decide +kernel
theorem dX1_toOf_1 : decode cX1_toOf 1 = .ok (.iload_n 1, 1) := by decide +kernel
theorem dX1_toOf_2 : decode cX1_toOf 2 = .ok (.invokevirtual 50, 3) := by decide +kernel
theorem dX1_toOf_5 : decode cX1_toOf 5 = .ok (.ifCond .eq 12, 3) := by decide +kernel
theorem dX1_toOf_8 : decode cX1_toOf 8 = .ok (.aload_n 0, 1) := by decide +kernel
theorem dX1_toOf_9 : decode cX1_toOf 9 = .ok (.getfield 15, 3) := by decide +kernel
theorem dX1_toOf_12 : decode cX1_toOf 12 = .ok (.iload_n 1, 1) := by decide +kernel
theorem dX1_toOf_13 : decode cX1_toOf 13 = .ok (.iaload, 1) := by decide +kernel
theorem dX1_toOf_14 : decode cX1_toOf 14 = .ok (.goto 4, 3) := by decide +kernel
theorem dX1_toOf_17 : decode cX1_toOf 17 = .ok (.iconst (-1), 1) := by decide +kernel
theorem dX1_toOf_18 : decode cX1_toOf 18 = .ok (.ireturn, 1) := by decide +kernel
theorem dX1_startOf_0 : decode cX1_startOf 0 = .ok (.aload_n 0, 1) := by decide +kernel
theorem dX1_startOf_1 : decode cX1_startOf 1 = .ok (.iload_n 1, 1) := by decide +kernel
theorem dX1_startOf_2 : decode cX1_startOf 2 = .ok (.invokevirtual 50, 3) := by decide +kernel
theorem dX1_startOf_5 : decode cX1_startOf 5 = .ok (.ifCond .eq 12, 3) := by decide +kernel
theorem dX1_startOf_8 : decode cX1_startOf 8 = .ok (.aload_n 0, 1) := by decide +kernel
theorem dX1_startOf_9 : decode cX1_startOf 9 = .ok (.getfield 18, 3) := by decide +kernel
theorem dX1_startOf_12 : decode cX1_startOf 12 = .ok (.iload_n 1, 1) := by decide +kernel
theorem dX1_startOf_13 : decode cX1_startOf 13 = .ok (.iaload, 1) := by decide +kernel
theorem dX1_startOf_14 : decode cX1_startOf 14 = .ok (.goto 4, 3) := by decide +kernel
theorem dX1_startOf_17 : decode cX1_startOf 17 = .ok (.iconst (-1), 1) := by decide +kernel
theorem dX1_startOf_18 : decode cX1_startOf 18 = .ok (.ireturn, 1) := by decide +kernel
theorem dX1_seatsOf_0 : decode cX1_seatsOf 0 = .ok (.aload_n 0, 1) := by decide +kernel
theorem dX1_seatsOf_1 : decode cX1_seatsOf 1 = .ok (.iload_n 1, 1) := by decide +kernel
theorem dX1_seatsOf_2 : decode cX1_seatsOf 2 = .ok (.invokevirtual 50, 3) := by decide +kernel
theorem dX1_seatsOf_5 : decode cX1_seatsOf 5 = .ok (.ifCond .eq 12, 3) := by decide +kernel
theorem dX1_seatsOf_8 : decode cX1_seatsOf 8 = .ok (.aload_n 0, 1) := by decide +kernel
theorem dX1_seatsOf_9 : decode cX1_seatsOf 9 = .ok (.getfield 21, 3) := by decide +kernel
theorem dX1_seatsOf_12 : decode cX1_seatsOf 12 = .ok (.iload_n 1, 1) := by decide +kernel
theorem dX1_seatsOf_13 : decode cX1_seatsOf 13 = .ok (.iaload, 1) := by decide +kernel
theorem dX1_seatsOf_14 : decode cX1_seatsOf 14 = .ok (.goto 4, 3) := by decide +kernel
theorem dX1_seatsOf_17 : decode cX1_seatsOf 17 = .ok (.iconst (-1), 1) := by decide +kernel
theorem dX1_seatsOf_18 : decode cX1_seatsOf 18 = .ok (.ireturn, 1) := by decide +kernel
theorem dX1_anyBetween_0 : decode cX1_anyBetween 0 = .ok (.iconst 0, 1) := by decide +kernel
theorem dX1_anyBetween_1 : decode cX1_anyBetween 1 = .ok (.istore_n 3, 1) := by decide +kernel
theorem dX1_anyBetween_2 : decode cX1_anyBetween 2 = .ok (.iload_n 3, 1) := by decide +kernel
theorem dX1_anyBetween_3 : decode cX1_anyBetween 3 = .ok (.aload_n 0, 1) := by decide +kernel
theorem dX1_anyBetween_4 : decode cX1_anyBetween 4 = .ok (.getfield 31, 3) := by decide +kernel
theorem dX1_anyBetween_7 : decode cX1_anyBetween 7 = .ok (.if_icmp .ge 84, 3) := by decide +kernel
theorem dX1_anyBetween_10 : decode cX1_anyBetween 10 = .ok (.aload_n 0, 1) := by decide +kernel
theorem dX1_anyBetween_11 : decode cX1_anyBetween 11 = .ok (.getfield 11, 3) := by decide +kernel
theorem dX1_anyBetween_14 : decode cX1_anyBetween 14 = .ok (.iload_n 3, 1) := by decide +kernel
theorem dX1_anyBetween_15 : decode cX1_anyBetween 15 = .ok (.iaload, 1) := by decide +kernel
theorem dX1_anyBetween_16 : decode cX1_anyBetween 16 = .ok (.iload_n 1, 1) := by decide +kernel
theorem dX1_anyBetween_17 : decode cX1_anyBetween 17 = .ok (.if_icmp .ne 17, 3) := by decide +kernel
theorem dX1_anyBetween_20 : decode cX1_anyBetween 20 = .ok (.aload_n 0, 1) := by decide +kernel
theorem dX1_anyBetween_21 : decode cX1_anyBetween 21 = .ok (.getfield 15, 3) := by decide +kernel
theorem dX1_anyBetween_24 : decode cX1_anyBetween 24 = .ok (.iload_n 3, 1) := by decide +kernel
theorem dX1_anyBetween_25 : decode cX1_anyBetween 25 = .ok (.iaload, 1) := by decide +kernel
theorem dX1_anyBetween_26 : decode cX1_anyBetween 26 = .ok (.iload_n 2, 1) := by decide +kernel
theorem dX1_anyBetween_27 : decode cX1_anyBetween 27 = .ok (.if_icmp .ne 7, 3) := by decide +kernel
theorem dX1_anyBetween_30 : decode cX1_anyBetween 30 = .ok (.iconst 1, 1) := by decide +kernel
theorem dX1_anyBetween_31 : decode cX1_anyBetween 31 = .ok (.goto 4, 3) := by decide +kernel
theorem dX1_anyBetween_34 : decode cX1_anyBetween 34 = .ok (.iconst 0, 1) := by decide +kernel
theorem dX1_anyBetween_35 : decode cX1_anyBetween 35 = .ok (.istore 4, 2) := by decide +kernel
theorem dX1_anyBetween_37 : decode cX1_anyBetween 37 = .ok (.aload_n 0, 1) := by decide +kernel
theorem dX1_anyBetween_38 : decode cX1_anyBetween 38 = .ok (.getfield 11, 3) := by decide +kernel
theorem dX1_anyBetween_41 : decode cX1_anyBetween 41 = .ok (.iload_n 3, 1) := by decide +kernel
theorem dX1_anyBetween_42 : decode cX1_anyBetween 42 = .ok (.iaload, 1) := by decide +kernel
theorem dX1_anyBetween_43 : decode cX1_anyBetween 43 = .ok (.iload_n 2, 1) := by decide +kernel
theorem dX1_anyBetween_44 : decode cX1_anyBetween 44 = .ok (.if_icmp .ne 17, 3) := by decide +kernel
theorem dX1_anyBetween_47 : decode cX1_anyBetween 47 = .ok (.aload_n 0, 1) := by decide +kernel
theorem dX1_anyBetween_48 : decode cX1_anyBetween 48 = .ok (.getfield 15, 3) := by decide +kernel
theorem dX1_anyBetween_51 : decode cX1_anyBetween 51 = .ok (.iload_n 3, 1) := by decide +kernel
theorem dX1_anyBetween_52 : decode cX1_anyBetween 52 = .ok (.iaload, 1) := by decide +kernel
theorem dX1_anyBetween_53 : decode cX1_anyBetween 53 = .ok (.iload_n 1, 1) := by decide +kernel
theorem dX1_anyBetween_54 : decode cX1_anyBetween 54 = .ok (.if_icmp .ne 7, 3) := by decide +kernel
theorem dX1_anyBetween_57 : decode cX1_anyBetween 57 = .ok (.iconst 1, 1) := by decide +kernel
theorem dX1_anyBetween_58 : decode cX1_anyBetween 58 = .ok (.goto 4, 3) := by decide +kernel
theorem dX1_anyBetween_61 : decode cX1_anyBetween 61 = .ok (.iconst 0, 1) := by decide +kernel
theorem dX1_anyBetween_62 : decode cX1_anyBetween 62 = .ok (.istore 5, 2) := by decide +kernel
theorem dX1_anyBetween_64 : decode cX1_anyBetween 64 = .ok (.aload_n 0, 1) := by decide +kernel
theorem dX1_anyBetween_65 : decode cX1_anyBetween 65 = .ok (.getfield 24, 3) := by decide +kernel
theorem dX1_anyBetween_68 : decode cX1_anyBetween 68 = .ok (.iload_n 3, 1) := by decide +kernel
theorem dX1_anyBetween_69 : decode cX1_anyBetween 69 = .ok (.baload, 1) := by decide +kernel
theorem dX1_anyBetween_70 : decode cX1_anyBetween 70 = .ok (.ifCond .ne 15, 3) := by decide +kernel
theorem dX1_anyBetween_73 : decode cX1_anyBetween 73 = .ok (.iload 4, 2) := by decide +kernel
theorem dX1_anyBetween_75 : decode cX1_anyBetween 75 = .ok (.ifCond .ne 8, 3) := by decide +kernel
theorem dX1_anyBetween_78 : decode cX1_anyBetween 78 = .ok (.iload 5, 2) := by decide +kernel
theorem dX1_anyBetween_80 : decode cX1_anyBetween 80 = .ok (.ifCond .eq 5, 3) := by decide +kernel
theorem dX1_anyBetween_83 : decode cX1_anyBetween 83 = .ok (.iconst 1, 1) := by decide +kernel
theorem dX1_anyBetween_84 : decode cX1_anyBetween 84 = .ok (.ireturn, 1) := by decide +kernel
theorem dX1_anyBetween_85 : decode cX1_anyBetween 85 = .ok (.iinc 3 1, 3) := by decide +kernel
theorem dX1_anyBetween_88 : decode cX1_anyBetween 88 = .ok (.goto (-86), 3) := by decide +kernel
theorem dX1_anyBetween_91 : decode cX1_anyBetween 91 = .ok (.iconst 0, 1) := by decide +kernel
theorem dX1_anyBetween_92 : decode cX1_anyBetween 92 = .ok (.ireturn, 1) := by decide +kernel
theorem dX2_init_0 : decode cX2_init 0 = .ok (.aload_n 0, 1) := by decide +kernel
theorem dX2_init_1 : decode cX2_init 1 = .ok (.invokespecial 3, 3) := by decide +kernel
theorem dX2_init_4 : decode cX2_init 4 = .ok (.aload_n 0, 1) := by decide +kernel
theorem dX2_init_5 : decode cX2_init 5 = .ok (.bipush 7, 2) := by decide +kernel
theorem dX2_init_7 : decode cX2_init 7 = .ok (.newarray .int, 2) := by decide +kernel
theorem dX2_init_9 : decode cX2_init 9 = .ok (.putfield 9, 3) := by decide +kernel
theorem dX2_init_12 : decode cX2_init 12 = .ok (.aload_n 0, 1) := by decide +kernel
theorem dX2_init_13 : decode cX2_init 13 = .ok (.bipush 7, 2) := by decide +kernel
theorem dX2_init_15 : decode cX2_init 15 = .ok (.newarray .int, 2) := by decide +kernel
theorem dX2_init_17 : decode cX2_init 17 = .ok (.putfield 15, 3) := by decide +kernel
theorem dX2_init_20 : decode cX2_init 20 = .ok (.aload_n 0, 1) := by decide +kernel
theorem dX2_init_21 : decode cX2_init 21 = .ok (.bipush 7, 2) := by decide +kernel
theorem dX2_init_23 : decode cX2_init 23 = .ok (.newarray .int, 2) := by decide +kernel
theorem dX2_init_25 : decode cX2_init 25 = .ok (.putfield 18, 3) := by decide +kernel
theorem dX2_init_28 : decode cX2_init 28 = .ok (.aload_n 0, 1) := by decide +kernel
theorem dX2_init_29 : decode cX2_init 29 = .ok (.bipush 7, 2) := by decide +kernel
theorem dX2_init_31 : decode cX2_init 31 = .ok (.newarray .int, 2) := by decide +kernel
theorem dX2_init_33 : decode cX2_init 33 = .ok (.putfield 21, 3) := by decide +kernel
theorem dX2_init_36 : decode cX2_init 36 = .ok (.iconst 0, 1) := by decide +kernel
theorem dX2_init_37 : decode cX2_init 37 = .ok (.istore_n 1, 1) := by decide +kernel
theorem dX2_init_38 : decode cX2_init 38 = .ok (.iload_n 1, 1) := by decide +kernel
theorem dX2_init_39 : decode cX2_init 39 = .ok (.bipush 7, 2) := by decide +kernel
theorem dX2_init_41 : decode cX2_init 41 = .ok (.if_icmp .ge 41, 3) := by decide +kernel
theorem dX2_init_44 : decode cX2_init 44 = .ok (.aload_n 0, 1) := by decide +kernel
theorem dX2_init_45 : decode cX2_init 45 = .ok (.getfield 9, 3) := by decide +kernel
theorem dX2_init_48 : decode cX2_init 48 = .ok (.iload_n 1, 1) := by decide +kernel
theorem dX2_init_49 : decode cX2_init 49 = .ok (.iconst (-1), 1) := by decide +kernel
theorem dX2_init_50 : decode cX2_init 50 = .ok (.iastore, 1) := by decide +kernel
theorem dX2_init_51 : decode cX2_init 51 = .ok (.aload_n 0, 1) := by decide +kernel
theorem dX2_init_52 : decode cX2_init 52 = .ok (.getfield 15, 3) := by decide +kernel
theorem dX2_init_55 : decode cX2_init 55 = .ok (.iload_n 1, 1) := by decide +kernel
theorem dX2_init_56 : decode cX2_init 56 = .ok (.iconst (-1), 1) := by decide +kernel
theorem dX2_init_57 : decode cX2_init 57 = .ok (.iastore, 1) := by decide +kernel
theorem dX2_init_58 : decode cX2_init 58 = .ok (.aload_n 0, 1) := by decide +kernel
theorem dX2_init_59 : decode cX2_init 59 = .ok (.getfield 18, 3) := by decide +kernel
theorem dX2_init_62 : decode cX2_init 62 = .ok (.iload_n 1, 1) := by decide +kernel
theorem dX2_init_63 : decode cX2_init 63 = .ok (.sipush 840, 3) := by decide +kernel
theorem dX2_init_66 : decode cX2_init 66 = .ok (.iastore, 1) := by decide +kernel
theorem dX2_init_67 : decode cX2_init 67 = .ok (.aload_n 0, 1) := by decide +kernel
theorem dX2_init_68 : decode cX2_init 68 = .ok (.getfield 21, 3) := by decide +kernel
theorem dX2_init_71 : decode cX2_init 71 = .ok (.iload_n 1, 1) := by decide +kernel
theorem dX2_init_72 : decode cX2_init 72 = .ok (.sipush 600, 3) := by decide +kernel
theorem dX2_init_75 : decode cX2_init 75 = .ok (.iastore, 1) := by decide +kernel
theorem dX2_init_76 : decode cX2_init 76 = .ok (.iinc 1 1, 3) := by decide +kernel
theorem dX2_init_79 : decode cX2_init 79 = .ok (.goto (-41), 3) := by decide +kernel
theorem dX2_init_82 : decode cX2_init 82 = .ok (.return_, 1) := by decide +kernel
theorem dX2_dutyOn_0 : decode cX2_dutyOn 0 = .ok (.iload_n 1, 1) := by decide +kernel
theorem dX2_dutyOn_1 : decode cX2_dutyOn 1 = .ok (.ifCond .lt 18, 3) := by decide +kernel
theorem dX2_dutyOn_4 : decode cX2_dutyOn 4 = .ok (.iload_n 1, 1) := by decide +kernel
theorem dX2_dutyOn_5 : decode cX2_dutyOn 5 = .ok (.bipush 7, 2) := by decide +kernel
theorem dX2_dutyOn_7 : decode cX2_dutyOn 7 = .ok (.if_icmp .ge 12, 3) := by decide +kernel
theorem dX2_dutyOn_10 : decode cX2_dutyOn 10 = .ok (.aload_n 0, 1) := by decide +kernel
theorem dX2_dutyOn_11 : decode cX2_dutyOn 11 = .ok (.getfield 18, 3) := by decide +kernel
theorem dX2_dutyOn_14 : decode cX2_dutyOn 14 = .ok (.iload_n 1, 1) := by decide +kernel
theorem dX2_dutyOn_15 : decode cX2_dutyOn 15 = .ok (.iaload, 1) := by decide +kernel
theorem dX2_dutyOn_16 : decode cX2_dutyOn 16 = .ok (.goto 4, 3) := by decide +kernel
theorem dX2_dutyOn_19 : decode cX2_dutyOn 19 = .ok (.iconst (-1), 1) := by decide +kernel
theorem dX2_dutyOn_20 : decode cX2_dutyOn 20 = .ok (.ireturn, 1) := by decide +kernel
theorem dX2_restOn_0 : decode cX2_restOn 0 = .ok (.iload_n 1, 1) := by decide +kernel
theorem dX2_restOn_1 : decode cX2_restOn 1 = .ok (.ifCond .lt 18, 3) := by decide +kernel
theorem dX2_restOn_4 : decode cX2_restOn 4 = .ok (.iload_n 1, 1) := by decide +kernel
theorem dX2_restOn_5 : decode cX2_restOn 5 = .ok (.bipush 7, 2) := by decide +kernel
theorem dX2_restOn_7 : decode cX2_restOn 7 = .ok (.if_icmp .ge 12, 3) := by decide +kernel
theorem dX2_restOn_10 : decode cX2_restOn 10 = .ok (.aload_n 0, 1) := by decide +kernel
theorem dX2_restOn_11 : decode cX2_restOn 11 = .ok (.getfield 21, 3) := by decide +kernel
theorem dX2_restOn_14 : decode cX2_restOn 14 = .ok (.iload_n 1, 1) := by decide +kernel
theorem dX2_restOn_15 : decode cX2_restOn 15 = .ok (.iaload, 1) := by decide +kernel
theorem dX2_restOn_16 : decode cX2_restOn 16 = .ok (.goto 4, 3) := by decide +kernel
theorem dX2_restOn_19 : decode cX2_restOn 19 = .ok (.iconst (-1), 1) := by decide +kernel
theorem dX2_restOn_20 : decode cX2_restOn 20 = .ok (.ireturn, 1) := by decide +kernel
theorem dX2_read_0 : decode cX2_read 0 = .ok (.aload_n 0, 1) := by decide +kernel
theorem dX2_read_1 : decode cX2_read 1 = .ok (.iconst (-1), 1) := by decide +kernel
theorem dX2_read_2 : decode cX2_read 2 = .ok (.putfield 24, 3) := by decide +kernel
theorem dX2_read_5 : decode cX2_read 5 = .ok (.aload_n 0, 1) := by decide +kernel
theorem dX2_read_6 : decode cX2_read 6 = .ok (.iconst (-1), 1) := by decide +kernel
theorem dX2_read_7 : decode cX2_read 7 = .ok (.putfield 28, 3) := by decide +kernel
theorem dX2_read_10 : decode cX2_read 10 = .ok (.aload_n 0, 1) := by decide +kernel
theorem dX2_read_11 : decode cX2_read 11 = .ok (.iconst 0, 1) := by decide +kernel
theorem dX2_read_12 : decode cX2_read 12 = .ok (.putfield 31, 3) := by decide +kernel
theorem dX2_read_15 : decode cX2_read 15 = .ok (.iconst 0, 1) := by decide +kernel
theorem dX2_read_16 : decode cX2_read 16 = .ok (.istore_n 3, 1) := by decide +kernel
theorem dX2_read_17 : decode cX2_read 17 = .ok (.iload_n 3, 1) := by decide +kernel
theorem dX2_read_18 : decode cX2_read 18 = .ok (.iload_n 2, 1) := by decide +kernel
theorem dX2_read_19 : decode cX2_read 19 = .ok (.if_icmp .gt 70, 3) := by decide +kernel
theorem dX2_read_22 : decode cX2_read 22 = .ok (.aload_n 0, 1) := by decide +kernel
theorem dX2_read_23 : decode cX2_read 23 = .ok (.aload_n 1, 1) := by decide +kernel
theorem dX2_read_24 : decode cX2_read 24 = .ok (.iload_n 2, 1) := by decide +kernel
theorem dX2_read_25 : decode cX2_read 25 = .ok (.invokevirtual 34, 3) := by decide +kernel
theorem dX2_read_28 : decode cX2_read 28 = .ok (.istore 4, 2) := by decide +kernel
theorem dX2_read_30 : decode cX2_read 30 = .ok (.iload 4, 2) := by decide +kernel
theorem dX2_read_32 : decode cX2_read 32 = .ok (.ifCond .eq 6, 3) := by decide +kernel
theorem dX2_read_35 : decode cX2_read 35 = .ok (.iload 4, 2) := by decide +kernel
theorem dX2_read_37 : decode cX2_read 37 = .ok (.ireturn, 1) := by decide +kernel
theorem dX2_read_38 : decode cX2_read 38 = .ok (.aload_n 1, 1) := by decide +kernel
theorem dX2_read_39 : decode cX2_read 39 = .ok (.aload_n 0, 1) := by decide +kernel
theorem dX2_read_40 : decode cX2_read 40 = .ok (.getfield 31, 3) := by decide +kernel
theorem dX2_read_43 : decode cX2_read 43 = .ok (.iload_n 2, 1) := by decide +kernel
theorem dX2_read_44 : decode cX2_read 44 = .ok (.invokevirtual 38, 3) := by decide +kernel
theorem dX2_read_47 : decode cX2_read 47 = .ok (.istore 5, 2) := by decide +kernel
theorem dX2_read_49 : decode cX2_read 49 = .ok (.iload 5, 2) := by decide +kernel
theorem dX2_read_51 : decode cX2_read 51 = .ok (.iconst (-1), 1) := by decide +kernel
theorem dX2_read_52 : decode cX2_read 52 = .ok (.if_icmp .ne 5, 3) := by decide +kernel
theorem dX2_read_55 : decode cX2_read 55 = .ok (.iconst 0, 1) := by decide +kernel
theorem dX2_read_56 : decode cX2_read 56 = .ok (.ireturn, 1) := by decide +kernel
theorem dX2_read_57 : decode cX2_read 57 = .ok (.iload 5, 2) := by decide +kernel
theorem dX2_read_59 : decode cX2_read 59 = .ok (.bipush 59, 2) := by decide +kernel
theorem dX2_read_61 : decode cX2_read 61 = .ok (.if_icmp .eq 12, 3) := by decide +kernel
theorem dX2_read_64 : decode cX2_read 64 = .ok (.sipush 400, 3) := by decide +kernel
theorem dX2_read_67 : decode cX2_read 67 = .ok (.aload_n 0, 1) := by decide +kernel
theorem dX2_read_68 : decode cX2_read 68 = .ok (.getfield 31, 3) := by decide +kernel
theorem dX2_read_71 : decode cX2_read 71 = .ok (.iadd, 1) := by decide +kernel
theorem dX2_read_72 : decode cX2_read 72 = .ok (.ireturn, 1) := by decide +kernel
theorem dX2_read_73 : decode cX2_read 73 = .ok (.aload_n 0, 1) := by decide +kernel
theorem dX2_read_74 : decode cX2_read 74 = .ok (.dup, 1) := by decide +kernel
theorem dX2_read_75 : decode cX2_read 75 = .ok (.getfield 31, 3) := by decide +kernel
theorem dX2_read_78 : decode cX2_read 78 = .ok (.iconst 1, 1) := by decide +kernel
theorem dX2_read_79 : decode cX2_read 79 = .ok (.iadd, 1) := by decide +kernel
theorem dX2_read_80 : decode cX2_read 80 = .ok (.putfield 31, 3) := by decide +kernel
theorem dX2_read_83 : decode cX2_read 83 = .ok (.iinc 3 1, 3) := by decide +kernel
theorem dX2_read_86 : decode cX2_read 86 = .ok (.goto (-69), 3) := by decide +kernel
theorem dX2_read_89 : decode cX2_read 89 = .ok (.iconst 0, 1) := by decide +kernel
theorem dX2_read_90 : decode cX2_read 90 = .ok (.ireturn, 1) := by decide +kernel
theorem dX2_readClause_0 : decode cX2_readClause 0 = .ok (.aload_n 1, 1) := by decide +kernel
theorem dX2_readClause_1 : decode cX2_readClause 1 = .ok (.aload_n 0, 1) := by decide +kernel
theorem dX2_readClause_2 : decode cX2_readClause 2 = .ok (.getfield 31, 3) := by decide +kernel
theorem dX2_readClause_5 : decode cX2_readClause 5 = .ok (.iload_n 2, 1) := by decide +kernel
theorem dX2_readClause_6 : decode cX2_readClause 6 = .ok (.invokevirtual 38, 3) := by decide +kernel
theorem dX2_readClause_9 : decode cX2_readClause 9 = .ok (.istore_n 3, 1) := by decide +kernel
theorem dX2_readClause_10 : decode cX2_readClause 10 = .ok (.iload_n 3, 1) := by decide +kernel
theorem dX2_readClause_11 : decode cX2_readClause 11 = .ok (.bipush 100, 2) := by decide +kernel
theorem dX2_readClause_13 : decode cX2_readClause 13 = .ok (.if_icmp .eq 17, 3) := by decide +kernel
theorem dX2_readClause_16 : decode cX2_readClause 16 = .ok (.iload_n 3, 1) := by decide +kernel
theorem dX2_readClause_17 : decode cX2_readClause 17 = .ok (.bipush 114, 2) := by decide +kernel
theorem dX2_readClause_19 : decode cX2_readClause 19 = .ok (.if_icmp .eq 11, 3) := by decide +kernel
theorem dX2_readClause_22 : decode cX2_readClause 22 = .ok (.bipush 100, 2) := by decide +kernel
theorem dX2_readClause_24 : decode cX2_readClause 24 = .ok (.aload_n 0, 1) := by decide +kernel
theorem dX2_readClause_25 : decode cX2_readClause 25 = .ok (.getfield 31, 3) := by decide +kernel
theorem dX2_readClause_28 : decode cX2_readClause 28 = .ok (.iadd, 1) := by decide +kernel
theorem dX2_readClause_29 : decode cX2_readClause 29 = .ok (.ireturn, 1) := by decide +kernel
theorem dX2_readClause_30 : decode cX2_readClause 30 = .ok (.aload_n 0, 1) := by decide +kernel
theorem dX2_readClause_31 : decode cX2_readClause 31 = .ok (.dup, 1) := by decide +kernel
theorem dX2_readClause_32 : decode cX2_readClause 32 = .ok (.getfield 31, 3) := by decide +kernel
theorem dX2_readClause_35 : decode cX2_readClause 35 = .ok (.iconst 1, 1) := by decide +kernel
theorem dX2_readClause_36 : decode cX2_readClause 36 = .ok (.iadd, 1) := by decide +kernel
theorem dX2_readClause_37 : decode cX2_readClause 37 = .ok (.putfield 31, 3) := by decide +kernel
theorem dX2_readClause_40 : decode cX2_readClause 40 = .ok (.aload_n 0, 1) := by decide +kernel
theorem dX2_readClause_41 : decode cX2_readClause 41 = .ok (.getfield 31, 3) := by decide +kernel
theorem dX2_readClause_44 : decode cX2_readClause 44 = .ok (.istore 4, 2) := by decide +kernel
theorem dX2_readClause_46 : decode cX2_readClause 46 = .ok (.aload_n 0, 1) := by decide +kernel
theorem dX2_readClause_47 : decode cX2_readClause 47 = .ok (.aload_n 1, 1) := by decide +kernel
theorem dX2_readClause_48 : decode cX2_readClause 48 = .ok (.iload_n 2, 1) := by decide +kernel
theorem dX2_readClause_49 : decode cX2_readClause 49 = .ok (.invokevirtual 44, 3) := by decide +kernel
theorem dX2_readClause_52 : decode cX2_readClause 52 = .ok (.istore 5, 2) := by decide +kernel
theorem dX2_readClause_54 : decode cX2_readClause 54 = .ok (.aload_n 0, 1) := by decide +kernel
theorem dX2_readClause_55 : decode cX2_readClause 55 = .ok (.getfield 31, 3) := by decide +kernel
theorem dX2_readClause_58 : decode cX2_readClause 58 = .ok (.iload 4, 2) := by decide +kernel
theorem dX2_readClause_60 : decode cX2_readClause 60 = .ok (.if_icmp .ne 12, 3) := by decide +kernel
theorem dX2_readClause_63 : decode cX2_readClause 63 = .ok (.sipush 200, 3) := by decide +kernel
theorem dX2_readClause_66 : decode cX2_readClause 66 = .ok (.aload_n 0, 1) := by decide +kernel
theorem dX2_readClause_67 : decode cX2_readClause 67 = .ok (.getfield 31, 3) := by decide +kernel
theorem dX2_readClause_70 : decode cX2_readClause 70 = .ok (.iadd, 1) := by decide +kernel
theorem dX2_readClause_71 : decode cX2_readClause 71 = .ok (.ireturn, 1) := by decide +kernel
theorem dX2_readClause_72 : decode cX2_readClause 72 = .ok (.iload_n 3, 1) := by decide +kernel
theorem dX2_readClause_73 : decode cX2_readClause 73 = .ok (.bipush 100, 2) := by decide +kernel
theorem dX2_readClause_75 : decode cX2_readClause 75 = .ok (.if_icmp .ne 8, 3) := by decide +kernel
theorem dX2_readClause_78 : decode cX2_readClause 78 = .ok (.bipush 60, 2) := by decide +kernel
theorem dX2_readClause_80 : decode cX2_readClause 80 = .ok (.goto 4, 3) := by decide +kernel
theorem dX2_readClause_83 : decode cX2_readClause 83 = .ok (.iconst 0, 1) := by decide +kernel
theorem dX2_readClause_84 : decode cX2_readClause 84 = .ok (.istore 6, 2) := by decide +kernel
theorem dX2_readClause_86 : decode cX2_readClause 86 = .ok (.aload_n 0, 1) := by decide +kernel
theorem dX2_readClause_87 : decode cX2_readClause 87 = .ok (.getfield 31, 3) := by decide +kernel
theorem dX2_readClause_90 : decode cX2_readClause 90 = .ok (.iload 4, 2) := by decide +kernel
theorem dX2_readClause_92 : decode cX2_readClause 92 = .ok (.isub, 1) := by decide +kernel
theorem dX2_readClause_93 : decode cX2_readClause 93 = .ok (.iconst 4, 1) := by decide +kernel
theorem dX2_readClause_94 : decode cX2_readClause 94 = .ok (.if_icmp .gt 16, 3) := by decide +kernel
theorem dX2_readClause_97 : decode cX2_readClause 97 = .ok (.iload 5, 2) := by decide +kernel
theorem dX2_readClause_99 : decode cX2_readClause 99 = .ok (.iload 6, 2) := by decide +kernel
theorem dX2_readClause_101 : decode cX2_readClause 101 = .ok (.sipush 9999, 3) := by decide +kernel
theorem dX2_readClause_104 : decode cX2_readClause 104 = .ok (.invokestatic 47, 3) := by decide +kernel
theorem dX2_readClause_107 : decode cX2_readClause 107 = .ok (.ifCond .ne 10, 3) := by decide +kernel
theorem dX2_readClause_110 : decode cX2_readClause 110 = .ok (.sipush 300, 3) := by decide +kernel
theorem dX2_readClause_113 : decode cX2_readClause 113 = .ok (.iload 4, 2) := by decide +kernel
theorem dX2_readClause_115 : decode cX2_readClause 115 = .ok (.iadd, 1) := by decide +kernel
theorem dX2_readClause_116 : decode cX2_readClause 116 = .ok (.ireturn, 1) := by decide +kernel
theorem dX2_readClause_117 : decode cX2_readClause 117 = .ok (.iload_n 3, 1) := by decide +kernel
theorem dX2_readClause_118 : decode cX2_readClause 118 = .ok (.bipush 100, 2) := by decide +kernel
theorem dX2_readClause_120 : decode cX2_readClause 120 = .ok (.if_icmp .ne 12, 3) := by decide +kernel
theorem dX2_readClause_123 : decode cX2_readClause 123 = .ok (.aload_n 0, 1) := by decide +kernel
theorem dX2_readClause_124 : decode cX2_readClause 124 = .ok (.iload 5, 2) := by decide +kernel
theorem dX2_readClause_126 : decode cX2_readClause 126 = .ok (.putfield 24, 3) := by decide +kernel
theorem dX2_readClause_129 : decode cX2_readClause 129 = .ok (.goto 9, 3) := by decide +kernel
theorem dX2_readClause_132 : decode cX2_readClause 132 = .ok (.aload_n 0, 1) := by decide +kernel
theorem dX2_readClause_133 : decode cX2_readClause 133 = .ok (.iload 5, 2) := by decide +kernel
theorem dX2_readClause_135 : decode cX2_readClause 135 = .ok (.putfield 28, 3) := by decide +kernel
theorem dX2_readClause_138 : decode cX2_readClause 138 = .ok (.iconst 0, 1) := by decide +kernel
theorem dX2_readClause_139 : decode cX2_readClause 139 = .ok (.ireturn, 1) := by decide +kernel
theorem dX2_readNumber_0 : decode cX2_readNumber 0 = .ok (.iconst 0, 1) := by decide +kernel
theorem dX2_readNumber_1 : decode cX2_readNumber 1 = .ok (.istore_n 3, 1) := by decide +kernel
theorem dX2_readNumber_2 : decode cX2_readNumber 2 = .ok (.iconst 0, 1) := by decide +kernel
theorem dX2_readNumber_3 : decode cX2_readNumber 3 = .ok (.istore 4, 2) := by decide +kernel
theorem dX2_readNumber_5 : decode cX2_readNumber 5 = .ok (.iload 4, 2) := by decide +kernel
theorem dX2_readNumber_7 : decode cX2_readNumber 7 = .ok (.iconst 4, 1) := by decide +kernel
theorem dX2_readNumber_8 : decode cX2_readNumber 8 = .ok (.if_icmp .gt 57, 3) := by decide +kernel
theorem dX2_readNumber_11 : decode cX2_readNumber 11 = .ok (.aload_n 1, 1) := by decide +kernel
theorem dX2_readNumber_12 : decode cX2_readNumber 12 = .ok (.aload_n 0, 1) := by decide +kernel
theorem dX2_readNumber_13 : decode cX2_readNumber 13 = .ok (.getfield 31, 3) := by decide +kernel
theorem dX2_readNumber_16 : decode cX2_readNumber 16 = .ok (.iload_n 2, 1) := by decide +kernel
theorem dX2_readNumber_17 : decode cX2_readNumber 17 = .ok (.invokevirtual 38, 3) := by decide +kernel
theorem dX2_readNumber_20 : decode cX2_readNumber 20 = .ok (.istore 5, 2) := by decide +kernel
theorem dX2_readNumber_22 : decode cX2_readNumber 22 = .ok (.iload 5, 2) := by decide +kernel
theorem dX2_readNumber_24 : decode cX2_readNumber 24 = .ok (.bipush 48, 2) := by decide +kernel
theorem dX2_readNumber_26 : decode cX2_readNumber 26 = .ok (.if_icmp .lt 10, 3) := by decide +kernel
theorem dX2_readNumber_29 : decode cX2_readNumber 29 = .ok (.iload 5, 2) := by decide +kernel
theorem dX2_readNumber_31 : decode cX2_readNumber 31 = .ok (.bipush 57, 2) := by decide +kernel
theorem dX2_readNumber_33 : decode cX2_readNumber 33 = .ok (.if_icmp .le 5, 3) := by decide +kernel
theorem dX2_readNumber_36 : decode cX2_readNumber 36 = .ok (.iload_n 3, 1) := by decide +kernel
theorem dX2_readNumber_37 : decode cX2_readNumber 37 = .ok (.ireturn, 1) := by decide +kernel
theorem dX2_readNumber_38 : decode cX2_readNumber 38 = .ok (.iload_n 3, 1) := by decide +kernel
theorem dX2_readNumber_39 : decode cX2_readNumber 39 = .ok (.bipush 10, 2) := by decide +kernel
theorem dX2_readNumber_41 : decode cX2_readNumber 41 = .ok (.imul, 1) := by decide +kernel
theorem dX2_readNumber_42 : decode cX2_readNumber 42 = .ok (.iload 5, 2) := by decide +kernel
theorem dX2_readNumber_44 : decode cX2_readNumber 44 = .ok (.bipush 48, 2) := by decide +kernel
theorem dX2_readNumber_46 : decode cX2_readNumber 46 = .ok (.isub, 1) := by decide +kernel
theorem dX2_readNumber_47 : decode cX2_readNumber 47 = .ok (.iadd, 1) := by decide +kernel
theorem dX2_readNumber_48 : decode cX2_readNumber 48 = .ok (.istore_n 3, 1) := by decide +kernel
theorem dX2_readNumber_49 : decode cX2_readNumber 49 = .ok (.aload_n 0, 1) := by decide +kernel
theorem dX2_readNumber_50 : decode cX2_readNumber 50 = .ok (.dup, 1) := by decide +kernel
theorem dX2_readNumber_51 : decode cX2_readNumber 51 = .ok (.getfield 31, 3) := by decide +kernel
theorem dX2_readNumber_54 : decode cX2_readNumber 54 = .ok (.iconst 1, 1) := by decide +kernel
theorem dX2_readNumber_55 : decode cX2_readNumber 55 = .ok (.iadd, 1) := by decide +kernel
theorem dX2_readNumber_56 : decode cX2_readNumber 56 = .ok (.putfield 31, 3) := by decide +kernel
theorem dX2_readNumber_59 : decode cX2_readNumber 59 = .ok (.iinc 4 1, 3) := by decide +kernel
theorem dX2_readNumber_62 : decode cX2_readNumber 62 = .ok (.goto (-57), 3) := by decide +kernel
theorem dX2_readNumber_65 : decode cX2_readNumber 65 = .ok (.iload_n 3, 1) := by decide +kernel
theorem dX2_readNumber_66 : decode cX2_readNumber 66 = .ok (.ireturn, 1) := by decide +kernel
theorem dX2_enact_0 : decode cX2_enact 0 = .ok (.iload_n 1, 1) := by decide +kernel
theorem dX2_enact_1 : decode cX2_enact 1 = .ok (.invokestatic 51, 3) := by decide +kernel
theorem dX2_enact_4 : decode cX2_enact 4 = .ok (.ifCond .ne 4, 3) := by decide +kernel
theorem dX2_enact_7 : decode cX2_enact 7 = .ok (.return_, 1) := by decide +kernel
theorem dX2_enact_8 : decode cX2_enact 8 = .ok (.aload_n 0, 1) := by decide +kernel
theorem dX2_enact_9 : decode cX2_enact 9 = .ok (.getfield 9, 3) := by decide +kernel
theorem dX2_enact_12 : decode cX2_enact 12 = .ok (.iload_n 1, 1) := by decide +kernel
theorem dX2_enact_13 : decode cX2_enact 13 = .ok (.aload_n 0, 1) := by decide +kernel
theorem dX2_enact_14 : decode cX2_enact 14 = .ok (.getfield 24, 3) := by decide +kernel
theorem dX2_enact_17 : decode cX2_enact 17 = .ok (.iastore, 1) := by decide +kernel
theorem dX2_enact_18 : decode cX2_enact 18 = .ok (.aload_n 0, 1) := by decide +kernel
theorem dX2_enact_19 : decode cX2_enact 19 = .ok (.getfield 15, 3) := by decide +kernel
theorem dX2_enact_22 : decode cX2_enact 22 = .ok (.iload_n 1, 1) := by decide +kernel
theorem dX2_enact_23 : decode cX2_enact 23 = .ok (.aload_n 0, 1) := by decide +kernel
theorem dX2_enact_24 : decode cX2_enact 24 = .ok (.getfield 28, 3) := by decide +kernel
theorem dX2_enact_27 : decode cX2_enact 27 = .ok (.iastore, 1) := by decide +kernel
theorem dX2_enact_28 : decode cX2_enact 28 = .ok (.sipush 840, 3) := by decide +kernel
theorem dX2_enact_31 : decode cX2_enact 31 = .ok (.istore_n 2, 1) := by decide +kernel
theorem dX2_enact_32 : decode cX2_enact 32 = .ok (.sipush 600, 3) := by decide +kernel
theorem dX2_enact_35 : decode cX2_enact 35 = .ok (.istore_n 3, 1) := by decide +kernel
theorem dX2_enact_36 : decode cX2_enact 36 = .ok (.iconst 0, 1) := by decide +kernel
theorem dX2_enact_37 : decode cX2_enact 37 = .ok (.istore 4, 2) := by decide +kernel
theorem dX2_enact_39 : decode cX2_enact 39 = .ok (.iload 4, 2) := by decide +kernel
theorem dX2_enact_41 : decode cX2_enact 41 = .ok (.bipush 7, 2) := by decide +kernel
theorem dX2_enact_43 : decode cX2_enact 43 = .ok (.if_icmp .ge 71, 3) := by decide +kernel
theorem dX2_enact_46 : decode cX2_enact 46 = .ok (.aload_n 0, 1) := by decide +kernel
theorem dX2_enact_47 : decode cX2_enact 47 = .ok (.getfield 9, 3) := by decide +kernel
theorem dX2_enact_50 : decode cX2_enact 50 = .ok (.iload 4, 2) := by decide +kernel
theorem dX2_enact_52 : decode cX2_enact 52 = .ok (.iaload, 1) := by decide +kernel
theorem dX2_enact_53 : decode cX2_enact 53 = .ok (.iconst (-1), 1) := by decide +kernel
theorem dX2_enact_54 : decode cX2_enact 54 = .ok (.if_icmp .ne 7, 3) := by decide +kernel
theorem dX2_enact_57 : decode cX2_enact 57 = .ok (.iload_n 2, 1) := by decide +kernel
theorem dX2_enact_58 : decode cX2_enact 58 = .ok (.goto 10, 3) := by decide +kernel
theorem dX2_enact_61 : decode cX2_enact 61 = .ok (.aload_n 0, 1) := by decide +kernel
theorem dX2_enact_62 : decode cX2_enact 62 = .ok (.getfield 9, 3) := by decide +kernel
theorem dX2_enact_65 : decode cX2_enact 65 = .ok (.iload 4, 2) := by decide +kernel
theorem dX2_enact_67 : decode cX2_enact 67 = .ok (.iaload, 1) := by decide +kernel
theorem dX2_enact_68 : decode cX2_enact 68 = .ok (.istore_n 2, 1) := by decide +kernel
theorem dX2_enact_69 : decode cX2_enact 69 = .ok (.aload_n 0, 1) := by decide +kernel
theorem dX2_enact_70 : decode cX2_enact 70 = .ok (.getfield 15, 3) := by decide +kernel
theorem dX2_enact_73 : decode cX2_enact 73 = .ok (.iload 4, 2) := by decide +kernel
theorem dX2_enact_75 : decode cX2_enact 75 = .ok (.iaload, 1) := by decide +kernel
theorem dX2_enact_76 : decode cX2_enact 76 = .ok (.iconst (-1), 1) := by decide +kernel
theorem dX2_enact_77 : decode cX2_enact 77 = .ok (.if_icmp .ne 7, 3) := by decide +kernel
theorem dX2_enact_80 : decode cX2_enact 80 = .ok (.iload_n 3, 1) := by decide +kernel
theorem dX2_enact_81 : decode cX2_enact 81 = .ok (.goto 10, 3) := by decide +kernel
theorem dX2_enact_84 : decode cX2_enact 84 = .ok (.aload_n 0, 1) := by decide +kernel
theorem dX2_enact_85 : decode cX2_enact 85 = .ok (.getfield 15, 3) := by decide +kernel
theorem dX2_enact_88 : decode cX2_enact 88 = .ok (.iload 4, 2) := by decide +kernel
theorem dX2_enact_90 : decode cX2_enact 90 = .ok (.iaload, 1) := by decide +kernel
theorem dX2_enact_91 : decode cX2_enact 91 = .ok (.istore_n 3, 1) := by decide +kernel
theorem dX2_enact_92 : decode cX2_enact 92 = .ok (.aload_n 0, 1) := by decide +kernel
theorem dX2_enact_93 : decode cX2_enact 93 = .ok (.getfield 18, 3) := by decide +kernel
theorem dX2_enact_96 : decode cX2_enact 96 = .ok (.iload 4, 2) := by decide +kernel
theorem dX2_enact_98 : decode cX2_enact 98 = .ok (.iload_n 2, 1) := by decide +kernel
theorem dX2_enact_99 : decode cX2_enact 99 = .ok (.iastore, 1) := by decide +kernel
theorem dX2_enact_100 : decode cX2_enact 100 = .ok (.aload_n 0, 1) := by decide +kernel
theorem dX2_enact_101 : decode cX2_enact 101 = .ok (.getfield 21, 3) := by decide +kernel
theorem dX2_enact_104 : decode cX2_enact 104 = .ok (.iload 4, 2) := by decide +kernel
theorem dX2_enact_106 : decode cX2_enact 106 = .ok (.iload_n 3, 1) := by decide +kernel
theorem dX2_enact_107 : decode cX2_enact 107 = .ok (.iastore, 1) := by decide +kernel
theorem dX2_enact_108 : decode cX2_enact 108 = .ok (.iinc 4 1, 3) := by decide +kernel
theorem dX2_enact_111 : decode cX2_enact 111 = .ok (.goto (-72), 3) := by decide +kernel
theorem dX2_enact_114 : decode cX2_enact 114 = .ok (.return_, 1) := by decide +kernel
theorem dX3_init_0 : decode cX3_init 0 = .ok (.aload_n 0, 1) := by decide +kernel
theorem dX3_init_1 : decode cX3_init 1 = .ok (.invokespecial 3, 3) := by decide +kernel
theorem dX3_init_4 : decode cX3_init 4 = .ok (.aload_n 0, 1) := by decide +kernel
theorem dX3_init_5 : decode cX3_init 5 = .ok (.bipush 40, 2) := by decide +kernel
theorem dX3_init_7 : decode cX3_init 7 = .ok (.newarray .int, 2) := by decide +kernel
theorem dX3_init_9 : decode cX3_init 9 = .ok (.putfield 11, 3) := by decide +kernel
theorem dX3_init_12 : decode cX3_init 12 = .ok (.aload_n 0, 1) := by decide +kernel
theorem dX3_init_13 : decode cX3_init 13 = .ok (.bipush 40, 2) := by decide +kernel
theorem dX3_init_15 : decode cX3_init 15 = .ok (.newarray .int, 2) := by decide +kernel
theorem dX3_init_17 : decode cX3_init 17 = .ok (.putfield 15, 3) := by decide +kernel
theorem dX3_init_20 : decode cX3_init 20 = .ok (.aload_n 0, 1) := by decide +kernel
theorem dX3_init_21 : decode cX3_init 21 = .ok (.bipush 40, 2) := by decide +kernel
theorem dX3_init_23 : decode cX3_init 23 = .ok (.newarray .int, 2) := by decide +kernel
theorem dX3_init_25 : decode cX3_init 25 = .ok (.putfield 18, 3) := by decide +kernel
theorem dX3_init_28 : decode cX3_init 28 = .ok (.aload_n 0, 1) := by decide +kernel
theorem dX3_init_29 : decode cX3_init 29 = .ok (.bipush 40, 2) := by decide +kernel
theorem dX3_init_31 : decode cX3_init 31 = .ok (.newarray .int, 2) := by decide +kernel
theorem dX3_init_33 : decode cX3_init 33 = .ok (.putfield 21, 3) := by decide +kernel
theorem dX3_init_36 : decode cX3_init 36 = .ok (.aload_n 0, 1) := by decide +kernel
theorem dX3_init_37 : decode cX3_init 37 = .ok (.bipush 40, 2) := by decide +kernel
theorem dX3_init_39 : decode cX3_init 39 = .ok (.newarray .int, 2) := by decide +kernel
theorem dX3_init_41 : decode cX3_init 41 = .ok (.putfield 24, 3) := by decide +kernel
theorem dX3_init_44 : decode cX3_init 44 = .ok (.aload_n 0, 1) := by decide +kernel
theorem dX3_init_45 : decode cX3_init 45 = .ok (.bipush 40, 2) := by decide +kernel
theorem dX3_init_47 : decode cX3_init 47 = .ok (.newarray .int, 2) := by decide +kernel
theorem dX3_init_49 : decode cX3_init 49 = .ok (.putfield 27, 3) := by decide +kernel
theorem dX3_init_52 : decode cX3_init 52 = .ok (.aload_n 0, 1) := by decide +kernel
theorem dX3_init_53 : decode cX3_init 53 = .ok (.bipush 40, 2) := by decide +kernel
theorem dX3_init_55 : decode cX3_init 55 = .ok (.newarray .int, 2) := by decide +kernel
theorem dX3_init_57 : decode cX3_init 57 = .ok (.putfield 30, 3) := by decide +kernel
theorem dX3_init_60 : decode cX3_init 60 = .ok (.return_, 1) := by decide +kernel
theorem dX3_add_0 : decode cX3_add 0 = .ok (.aload_n 0, 1) := by decide +kernel
theorem dX3_add_1 : decode cX3_add 1 = .ok (.getfield 33, 3) := by decide +kernel
theorem dX3_add_4 : decode cX3_add 4 = .ok (.bipush 40, 2) := by decide +kernel
theorem dX3_add_6 : decode cX3_add 6 = .ok (.if_icmp .lt 5, 3) := by decide +kernel
theorem dX3_add_9 : decode cX3_add 9 = .ok (.iconst (-1), 1) := by decide +kernel
theorem dX3_add_10 : decode cX3_add 10 = .ok (.ireturn, 1) := by decide +kernel
theorem dX3_add_11 : decode cX3_add 11 = .ok (.aload_n 0, 1) := by decide +kernel
theorem dX3_add_12 : decode cX3_add 12 = .ok (.getfield 11, 3) := by decide +kernel
theorem dX3_add_15 : decode cX3_add 15 = .ok (.aload_n 0, 1) := by decide +kernel
theorem dX3_add_16 : decode cX3_add 16 = .ok (.getfield 33, 3) := by decide +kernel
theorem dX3_add_19 : decode cX3_add 19 = .ok (.iconst 0, 1) := by decide +kernel
theorem dX3_add_20 : decode cX3_add 20 = .ok (.iastore, 1) := by decide +kernel
theorem dX3_add_21 : decode cX3_add 21 = .ok (.aload_n 0, 1) := by decide +kernel
theorem dX3_add_22 : decode cX3_add 22 = .ok (.getfield 15, 3) := by decide +kernel
theorem dX3_add_25 : decode cX3_add 25 = .ok (.aload_n 0, 1) := by decide +kernel
theorem dX3_add_26 : decode cX3_add 26 = .ok (.getfield 33, 3) := by decide +kernel
theorem dX3_add_29 : decode cX3_add 29 = .ok (.iload_n 1, 1) := by decide +kernel
theorem dX3_add_30 : decode cX3_add 30 = .ok (.iastore, 1) := by decide +kernel
theorem dX3_add_31 : decode cX3_add 31 = .ok (.aload_n 0, 1) := by decide +kernel
theorem dX3_add_32 : decode cX3_add 32 = .ok (.getfield 18, 3) := by decide +kernel
theorem dX3_add_35 : decode cX3_add 35 = .ok (.aload_n 0, 1) := by decide +kernel
theorem dX3_add_36 : decode cX3_add 36 = .ok (.getfield 33, 3) := by decide +kernel
theorem dX3_add_39 : decode cX3_add 39 = .ok (.iload_n 2, 1) := by decide +kernel
theorem dX3_add_40 : decode cX3_add 40 = .ok (.iastore, 1) := by decide +kernel
theorem dX3_add_41 : decode cX3_add 41 = .ok (.aload_n 0, 1) := by decide +kernel
theorem dX3_add_42 : decode cX3_add 42 = .ok (.getfield 21, 3) := by decide +kernel
theorem dX3_add_45 : decode cX3_add 45 = .ok (.aload_n 0, 1) := by decide +kernel
theorem dX3_add_46 : decode cX3_add 46 = .ok (.getfield 33, 3) := by decide +kernel
theorem dX3_add_49 : decode cX3_add 49 = .ok (.iload_n 3, 1) := by decide +kernel
theorem dX3_add_50 : decode cX3_add 50 = .ok (.iastore, 1) := by decide +kernel
theorem dX3_add_51 : decode cX3_add 51 = .ok (.aload_n 0, 1) := by decide +kernel
theorem dX3_add_52 : decode cX3_add 52 = .ok (.getfield 24, 3) := by decide +kernel
theorem dX3_add_55 : decode cX3_add 55 = .ok (.aload_n 0, 1) := by decide +kernel
theorem dX3_add_56 : decode cX3_add 56 = .ok (.getfield 33, 3) := by decide +kernel
theorem dX3_add_59 : decode cX3_add 59 = .ok (.iload 4, 2) := by decide +kernel
theorem dX3_add_61 : decode cX3_add 61 = .ok (.iastore, 1) := by decide +kernel
theorem dX3_add_62 : decode cX3_add 62 = .ok (.aload_n 0, 1) := by decide +kernel
theorem dX3_add_63 : decode cX3_add 63 = .ok (.getfield 27, 3) := by decide +kernel
theorem dX3_add_66 : decode cX3_add 66 = .ok (.aload_n 0, 1) := by decide +kernel
theorem dX3_add_67 : decode cX3_add 67 = .ok (.getfield 33, 3) := by decide +kernel
theorem dX3_add_70 : decode cX3_add 70 = .ok (.iload 5, 2) := by decide +kernel
theorem dX3_add_72 : decode cX3_add 72 = .ok (.iastore, 1) := by decide +kernel
theorem dX3_add_73 : decode cX3_add 73 = .ok (.aload_n 0, 1) := by decide +kernel
theorem dX3_add_74 : decode cX3_add 74 = .ok (.getfield 30, 3) := by decide +kernel
theorem dX3_add_77 : decode cX3_add 77 = .ok (.aload_n 0, 1) := by decide +kernel
theorem dX3_add_78 : decode cX3_add 78 = .ok (.getfield 33, 3) := by decide +kernel
theorem dX3_add_81 : decode cX3_add 81 = .ok (.iconst (-1), 1) := by decide +kernel
theorem dX3_add_82 : decode cX3_add 82 = .ok (.iastore, 1) := by decide +kernel
theorem dX3_add_83 : decode cX3_add 83 = .ok (.aload_n 0, 1) := by decide +kernel
theorem dX3_add_84 : decode cX3_add 84 = .ok (.dup, 1) := by decide +kernel
theorem dX3_add_85 : decode cX3_add 85 = .ok (.getfield 33, 3) := by decide +kernel
theorem dX3_add_88 : decode cX3_add 88 = .ok (.iconst 1, 1) := by decide +kernel
theorem dX3_add_89 : decode cX3_add 89 = .ok (.iadd, 1) := by decide +kernel
theorem dX3_add_90 : decode cX3_add 90 = .ok (.putfield 33, 3) := by decide +kernel
theorem dX3_add_93 : decode cX3_add 93 = .ok (.aload_n 0, 1) := by decide +kernel
theorem dX3_add_94 : decode cX3_add 94 = .ok (.getfield 33, 3) := by decide +kernel
theorem dX3_add_97 : decode cX3_add 97 = .ok (.iconst 1, 1) := by decide +kernel
theorem dX3_add_98 : decode cX3_add 98 = .ok (.isub, 1) := by decide +kernel
theorem dX3_add_99 : decode cX3_add 99 = .ok (.ireturn, 1) := by decide +kernel
theorem dX3_sell_0 : decode cX3_sell 0 = .ok (.aload_n 0, 1) := by decide +kernel
theorem dX3_sell_1 : decode cX3_sell 1 = .ok (.iload_n 1, 1) := by decide +kernel
theorem dX3_sell_2 : decode cX3_sell 2 = .ok (.invokevirtual 37, 3) := by decide +kernel
theorem dX3_sell_5 : decode cX3_sell 5 = .ok (.ifCond .eq 17, 3) := by decide +kernel
theorem dX3_sell_8 : decode cX3_sell 8 = .ok (.aload_n 0, 1) := by decide +kernel
theorem dX3_sell_9 : decode cX3_sell 9 = .ok (.getfield 11, 3) := by decide +kernel
theorem dX3_sell_12 : decode cX3_sell 12 = .ok (.iload_n 1, 1) := by decide +kernel
theorem dX3_sell_13 : decode cX3_sell 13 = .ok (.iconst 1, 1) := by decide +kernel
theorem dX3_sell_14 : decode cX3_sell 14 = .ok (.iastore, 1) := by decide +kernel
theorem dX3_sell_15 : decode cX3_sell 15 = .ok (.aload_n 0, 1) := by decide +kernel
theorem dX3_sell_16 : decode cX3_sell 16 = .ok (.getfield 30, 3) := by decide +kernel
theorem dX3_sell_19 : decode cX3_sell 19 = .ok (.iload_n 1, 1) := by decide +kernel
theorem dX3_sell_20 : decode cX3_sell 20 = .ok (.iload_n 2, 1) := by decide +kernel
theorem dX3_sell_21 : decode cX3_sell 21 = .ok (.iastore, 1) := by decide +kernel
theorem dX3_sell_22 : decode cX3_sell 22 = .ok (.return_, 1) := by decide +kernel
theorem dX3_lapseBehind_0 : decode cX3_lapseBehind 0 = .ok (.iconst 0, 1) := by decide +kernel
theorem dX3_lapseBehind_1 : decode cX3_lapseBehind 1 = .ok (.istore_n 2, 1) := by decide +kernel
theorem dX3_lapseBehind_2 : decode cX3_lapseBehind 2 = .ok (.iload_n 2, 1) := by decide +kernel
theorem dX3_lapseBehind_3 : decode cX3_lapseBehind 3 = .ok (.aload_n 0, 1) := by decide +kernel
theorem dX3_lapseBehind_4 : decode cX3_lapseBehind 4 = .ok (.getfield 33, 3) := by decide +kernel
theorem dX3_lapseBehind_7 : decode cX3_lapseBehind 7 = .ok (.if_icmp .ge 35, 3) := by decide +kernel
theorem dX3_lapseBehind_10 : decode cX3_lapseBehind 10 = .ok (.aload_n 0, 1) := by decide +kernel
theorem dX3_lapseBehind_11 : decode cX3_lapseBehind 11 = .ok (.getfield 11, 3) := by decide +kernel
theorem dX3_lapseBehind_14 : decode cX3_lapseBehind 14 = .ok (.iload_n 2, 1) := by decide +kernel
theorem dX3_lapseBehind_15 : decode cX3_lapseBehind 15 = .ok (.iaload, 1) := by decide +kernel
theorem dX3_lapseBehind_16 : decode cX3_lapseBehind 16 = .ok (.ifCond .ne 20, 3) := by decide +kernel
theorem dX3_lapseBehind_19 : decode cX3_lapseBehind 19 = .ok (.iload_n 1, 1) := by decide +kernel
theorem dX3_lapseBehind_20 : decode cX3_lapseBehind 20 = .ok (.aload_n 0, 1) := by decide +kernel
theorem dX3_lapseBehind_21 : decode cX3_lapseBehind 21 = .ok (.getfield 27, 3) := by decide +kernel
theorem dX3_lapseBehind_24 : decode cX3_lapseBehind 24 = .ok (.iload_n 2, 1) := by decide +kernel
theorem dX3_lapseBehind_25 : decode cX3_lapseBehind 25 = .ok (.iaload, 1) := by decide +kernel
theorem dX3_lapseBehind_26 : decode cX3_lapseBehind 26 = .ok (.if_icmp .le 10, 3) := by decide +kernel
theorem dX3_lapseBehind_29 : decode cX3_lapseBehind 29 = .ok (.aload_n 0, 1) := by decide +kernel
theorem dX3_lapseBehind_30 : decode cX3_lapseBehind 30 = .ok (.getfield 11, 3) := by decide +kernel
theorem dX3_lapseBehind_33 : decode cX3_lapseBehind 33 = .ok (.iload_n 2, 1) := by decide +kernel
theorem dX3_lapseBehind_34 : decode cX3_lapseBehind 34 = .ok (.iconst 2, 1) := by decide +kernel
theorem dX3_lapseBehind_35 : decode cX3_lapseBehind 35 = .ok (.iastore, 1) := by decide +kernel
theorem dX3_lapseBehind_36 : decode cX3_lapseBehind 36 = .ok (.iinc 2 1, 3) := by decide +kernel
theorem dX3_lapseBehind_39 : decode cX3_lapseBehind 39 = .ok (.goto (-37), 3) := by decide +kernel
theorem dX3_lapseBehind_42 : decode cX3_lapseBehind 42 = .ok (.return_, 1) := by decide +kernel
theorem dX3_breakLost_0 : decode cX3_breakLost 0 = .ok (.iconst 0, 1) := by decide +kernel
theorem dX3_breakLost_1 : decode cX3_breakLost 1 = .ok (.istore_n 2, 1) := by decide +kernel
theorem dX3_breakLost_2 : decode cX3_breakLost 2 = .ok (.iload_n 2, 1) := by decide +kernel
theorem dX3_breakLost_3 : decode cX3_breakLost 3 = .ok (.aload_n 0, 1) := by decide +kernel
theorem dX3_breakLost_4 : decode cX3_breakLost 4 = .ok (.getfield 33, 3) := by decide +kernel
theorem dX3_breakLost_7 : decode cX3_breakLost 7 = .ok (.if_icmp .ge 79, 3) := by decide +kernel
theorem dX3_breakLost_10 : decode cX3_breakLost 10 = .ok (.aload_n 0, 1) := by decide +kernel
theorem dX3_breakLost_11 : decode cX3_breakLost 11 = .ok (.getfield 21, 3) := by decide +kernel
theorem dX3_breakLost_14 : decode cX3_breakLost 14 = .ok (.iload_n 2, 1) := by decide +kernel
theorem dX3_breakLost_15 : decode cX3_breakLost 15 = .ok (.iaload, 1) := by decide +kernel
theorem dX3_breakLost_16 : decode cX3_breakLost 16 = .ok (.istore_n 3, 1) := by decide +kernel
theorem dX3_breakLost_17 : decode cX3_breakLost 17 = .ok (.aload_n 1, 1) := by decide +kernel
theorem dX3_breakLost_18 : decode cX3_breakLost 18 = .ok (.iload_n 3, 1) := by decide +kernel
theorem dX3_breakLost_19 : decode cX3_breakLost 19 = .ok (.invokevirtual 41, 3) := by decide +kernel
theorem dX3_breakLost_22 : decode cX3_breakLost 22 = .ok (.aload_n 0, 1) := by decide +kernel
theorem dX3_breakLost_23 : decode cX3_breakLost 23 = .ok (.getfield 18, 3) := by decide +kernel
theorem dX3_breakLost_26 : decode cX3_breakLost 26 = .ok (.iload_n 2, 1) := by decide +kernel
theorem dX3_breakLost_27 : decode cX3_breakLost 27 = .ok (.iaload, 1) := by decide +kernel
theorem dX3_breakLost_28 : decode cX3_breakLost 28 = .ok (.if_icmp .ne 29, 3) := by decide +kernel
theorem dX3_breakLost_31 : decode cX3_breakLost 31 = .ok (.aload_n 1, 1) := by decide +kernel
theorem dX3_breakLost_32 : decode cX3_breakLost 32 = .ok (.iload_n 3, 1) := by decide +kernel
theorem dX3_breakLost_33 : decode cX3_breakLost 33 = .ok (.invokevirtual 47, 3) := by decide +kernel
theorem dX3_breakLost_36 : decode cX3_breakLost 36 = .ok (.ifCond .eq 21, 3) := by decide +kernel
theorem dX3_breakLost_39 : decode cX3_breakLost 39 = .ok (.aload_n 1, 1) := by decide +kernel
theorem dX3_breakLost_40 : decode cX3_breakLost 40 = .ok (.iload_n 3, 1) := by decide +kernel
theorem dX3_breakLost_41 : decode cX3_breakLost 41 = .ok (.invokevirtual 50, 3) := by decide +kernel
theorem dX3_breakLost_44 : decode cX3_breakLost 44 = .ok (.aload_n 0, 1) := by decide +kernel
theorem dX3_breakLost_45 : decode cX3_breakLost 45 = .ok (.getfield 15, 3) := by decide +kernel
theorem dX3_breakLost_48 : decode cX3_breakLost 48 = .ok (.iload_n 2, 1) := by decide +kernel
theorem dX3_breakLost_49 : decode cX3_breakLost 49 = .ok (.iaload, 1) := by decide +kernel
theorem dX3_breakLost_50 : decode cX3_breakLost 50 = .ok (.if_icmp .ne 7, 3) := by decide +kernel
theorem dX3_breakLost_53 : decode cX3_breakLost 53 = .ok (.iconst 1, 1) := by decide +kernel
theorem dX3_breakLost_54 : decode cX3_breakLost 54 = .ok (.goto 4, 3) := by decide +kernel
theorem dX3_breakLost_57 : decode cX3_breakLost 57 = .ok (.iconst 0, 1) := by decide +kernel
theorem dX3_breakLost_58 : decode cX3_breakLost 58 = .ok (.istore 4, 2) := by decide +kernel
theorem dX3_breakLost_60 : decode cX3_breakLost 60 = .ok (.aload_n 0, 1) := by decide +kernel
theorem dX3_breakLost_61 : decode cX3_breakLost 61 = .ok (.iload_n 2, 1) := by decide +kernel
theorem dX3_breakLost_62 : decode cX3_breakLost 62 = .ok (.invokevirtual 53, 3) := by decide +kernel
theorem dX3_breakLost_65 : decode cX3_breakLost 65 = .ok (.ifCond .eq 15, 3) := by decide +kernel
theorem dX3_breakLost_68 : decode cX3_breakLost 68 = .ok (.iload 4, 2) := by decide +kernel
theorem dX3_breakLost_70 : decode cX3_breakLost 70 = .ok (.ifCond .ne 10, 3) := by decide +kernel
theorem dX3_breakLost_73 : decode cX3_breakLost 73 = .ok (.aload_n 0, 1) := by decide +kernel
theorem dX3_breakLost_74 : decode cX3_breakLost 74 = .ok (.getfield 11, 3) := by decide +kernel
theorem dX3_breakLost_77 : decode cX3_breakLost 77 = .ok (.iload_n 2, 1) := by decide +kernel
theorem dX3_breakLost_78 : decode cX3_breakLost 78 = .ok (.iconst 3, 1) := by decide +kernel
theorem dX3_breakLost_79 : decode cX3_breakLost 79 = .ok (.iastore, 1) := by decide +kernel
theorem dX3_breakLost_80 : decode cX3_breakLost 80 = .ok (.iinc 2 1, 3) := by decide +kernel
theorem dX3_breakLost_83 : decode cX3_breakLost 83 = .ok (.goto (-81), 3) := by decide +kernel
theorem dX3_breakLost_86 : decode cX3_breakLost 86 = .ok (.return_, 1) := by decide +kernel
theorem dX3_isStanding_0 : decode cX3_isStanding 0 = .ok (.aload_n 0, 1) := by decide +kernel
theorem dX3_isStanding_1 : decode cX3_isStanding 1 = .ok (.iload_n 1, 1) := by decide +kernel
theorem dX3_isStanding_2 : decode cX3_isStanding 2 = .ok (.invokevirtual 56, 3) := by decide +kernel
theorem dX3_isStanding_5 : decode cX3_isStanding 5 = .ok (.ifCond .eq 12, 3) := by decide +kernel
theorem dX3_isStanding_8 : decode cX3_isStanding 8 = .ok (.aload_n 0, 1) := by decide +kernel
theorem dX3_isStanding_9 : decode cX3_isStanding 9 = .ok (.iload_n 1, 1) := by decide +kernel
theorem dX3_isStanding_10 : decode cX3_isStanding 10 = .ok (.invokevirtual 56, 3) := by decide +kernel
theorem dX3_isStanding_13 : decode cX3_isStanding 13 = .ok (.iconst 1, 1) := by decide +kernel
theorem dX3_isStanding_14 : decode cX3_isStanding 14 = .ok (.if_icmp .ne 7, 3) := by decide +kernel
theorem dX3_isStanding_17 : decode cX3_isStanding 17 = .ok (.iconst 1, 1) := by decide +kernel
theorem dX3_isStanding_18 : decode cX3_isStanding 18 = .ok (.goto 4, 3) := by decide +kernel
theorem dX3_isStanding_21 : decode cX3_isStanding 21 = .ok (.iconst 0, 1) := by decide +kernel
theorem dX3_isStanding_22 : decode cX3_isStanding 22 = .ok (.ireturn, 1) := by decide +kernel
theorem dX3_isHeld_0 : decode cX3_isHeld 0 = .ok (.iconst 0, 1) := by decide +kernel
theorem dX3_isHeld_1 : decode cX3_isHeld 1 = .ok (.istore_n 2, 1) := by decide +kernel
theorem dX3_isHeld_2 : decode cX3_isHeld 2 = .ok (.iload_n 2, 1) := by decide +kernel
theorem dX3_isHeld_3 : decode cX3_isHeld 3 = .ok (.aload_n 0, 1) := by decide +kernel
theorem dX3_isHeld_4 : decode cX3_isHeld 4 = .ok (.getfield 33, 3) := by decide +kernel
theorem dX3_isHeld_7 : decode cX3_isHeld 7 = .ok (.if_icmp .ge 29, 3) := by decide +kernel
theorem dX3_isHeld_10 : decode cX3_isHeld 10 = .ok (.aload_n 0, 1) := by decide +kernel
theorem dX3_isHeld_11 : decode cX3_isHeld 11 = .ok (.getfield 21, 3) := by decide +kernel
theorem dX3_isHeld_14 : decode cX3_isHeld 14 = .ok (.iload_n 2, 1) := by decide +kernel
theorem dX3_isHeld_15 : decode cX3_isHeld 15 = .ok (.iaload, 1) := by decide +kernel
theorem dX3_isHeld_16 : decode cX3_isHeld 16 = .ok (.iload_n 1, 1) := by decide +kernel
theorem dX3_isHeld_17 : decode cX3_isHeld 17 = .ok (.if_icmp .ne 13, 3) := by decide +kernel
theorem dX3_isHeld_20 : decode cX3_isHeld 20 = .ok (.aload_n 0, 1) := by decide +kernel
theorem dX3_isHeld_21 : decode cX3_isHeld 21 = .ok (.iload_n 2, 1) := by decide +kernel
theorem dX3_isHeld_22 : decode cX3_isHeld 22 = .ok (.invokevirtual 53, 3) := by decide +kernel
theorem dX3_isHeld_25 : decode cX3_isHeld 25 = .ok (.ifCond .eq 5, 3) := by decide +kernel
theorem dX3_isHeld_28 : decode cX3_isHeld 28 = .ok (.iconst 1, 1) := by decide +kernel
theorem dX3_isHeld_29 : decode cX3_isHeld 29 = .ok (.ireturn, 1) := by decide +kernel
theorem dX3_isHeld_30 : decode cX3_isHeld 30 = .ok (.iinc 2 1, 3) := by decide +kernel
theorem dX3_isHeld_33 : decode cX3_isHeld 33 = .ok (.goto (-31), 3) := by decide +kernel
theorem dX3_isHeld_36 : decode cX3_isHeld 36 = .ok (.iconst 0, 1) := by decide +kernel
theorem dX3_isHeld_37 : decode cX3_isHeld 37 = .ok (.ireturn, 1) := by decide +kernel
theorem dX3_takenPrice_0 : decode cX3_takenPrice 0 = .ok (.iconst 0, 1) := by decide +kernel
theorem dX3_takenPrice_1 : decode cX3_takenPrice 1 = .ok (.istore_n 2, 1) := by decide +kernel
theorem dX3_takenPrice_2 : decode cX3_takenPrice 2 = .ok (.iload_n 2, 1) := by decide +kernel
theorem dX3_takenPrice_3 : decode cX3_takenPrice 3 = .ok (.aload_n 0, 1) := by decide +kernel
theorem dX3_takenPrice_4 : decode cX3_takenPrice 4 = .ok (.getfield 33, 3) := by decide +kernel
theorem dX3_takenPrice_7 : decode cX3_takenPrice 7 = .ok (.if_icmp .ge 36, 3) := by decide +kernel
theorem dX3_takenPrice_10 : decode cX3_takenPrice 10 = .ok (.aload_n 0, 1) := by decide +kernel
theorem dX3_takenPrice_11 : decode cX3_takenPrice 11 = .ok (.getfield 21, 3) := by decide +kernel
theorem dX3_takenPrice_14 : decode cX3_takenPrice 14 = .ok (.iload_n 2, 1) := by decide +kernel
theorem dX3_takenPrice_15 : decode cX3_takenPrice 15 = .ok (.iaload, 1) := by decide +kernel
theorem dX3_takenPrice_16 : decode cX3_takenPrice 16 = .ok (.iload_n 1, 1) := by decide +kernel
theorem dX3_takenPrice_17 : decode cX3_takenPrice 17 = .ok (.if_icmp .ne 20, 3) := by decide +kernel
theorem dX3_takenPrice_20 : decode cX3_takenPrice 20 = .ok (.aload_n 0, 1) := by decide +kernel
theorem dX3_takenPrice_21 : decode cX3_takenPrice 21 = .ok (.getfield 11, 3) := by decide +kernel
theorem dX3_takenPrice_24 : decode cX3_takenPrice 24 = .ok (.iload_n 2, 1) := by decide +kernel
theorem dX3_takenPrice_25 : decode cX3_takenPrice 25 = .ok (.iaload, 1) := by decide +kernel
theorem dX3_takenPrice_26 : decode cX3_takenPrice 26 = .ok (.iconst 1, 1) := by decide +kernel
theorem dX3_takenPrice_27 : decode cX3_takenPrice 27 = .ok (.if_icmp .ne 10, 3) := by decide +kernel
theorem dX3_takenPrice_30 : decode cX3_takenPrice 30 = .ok (.aload_n 0, 1) := by decide +kernel
theorem dX3_takenPrice_31 : decode cX3_takenPrice 31 = .ok (.getfield 24, 3) := by decide +kernel
theorem dX3_takenPrice_34 : decode cX3_takenPrice 34 = .ok (.iload_n 2, 1) := by decide +kernel
theorem dX3_takenPrice_35 : decode cX3_takenPrice 35 = .ok (.iaload, 1) := by decide +kernel
theorem dX3_takenPrice_36 : decode cX3_takenPrice 36 = .ok (.ireturn, 1) := by decide +kernel
theorem dX3_takenPrice_37 : decode cX3_takenPrice 37 = .ok (.iinc 2 1, 3) := by decide +kernel
theorem dX3_takenPrice_40 : decode cX3_takenPrice 40 = .ok (.goto (-38), 3) := by decide +kernel
theorem dX3_takenPrice_43 : decode cX3_takenPrice 43 = .ok (.iconst 0, 1) := by decide +kernel
theorem dX3_takenPrice_44 : decode cX3_takenPrice 44 = .ok (.ireturn, 1) := by decide +kernel
theorem dX3_size_0 : decode cX3_size 0 = .ok (.aload_n 0, 1) := by decide +kernel
theorem dX3_size_1 : decode cX3_size 1 = .ok (.getfield 33, 3) := by decide +kernel
theorem dX3_size_4 : decode cX3_size 4 = .ok (.ireturn, 1) := by decide +kernel
theorem dX3_has_0 : decode cX3_has 0 = .ok (.iload_n 1, 1) := by decide +kernel
theorem dX3_has_1 : decode cX3_has 1 = .ok (.ifCond .lt 15, 3) := by decide +kernel
theorem dX3_has_4 : decode cX3_has 4 = .ok (.iload_n 1, 1) := by decide +kernel
theorem dX3_has_5 : decode cX3_has 5 = .ok (.aload_n 0, 1) := by decide +kernel
theorem dX3_has_6 : decode cX3_has 6 = .ok (.getfield 33, 3) := by decide +kernel
theorem dX3_has_9 : decode cX3_has 9 = .ok (.if_icmp .ge 7, 3) := by decide +kernel
theorem dX3_has_12 : decode cX3_has 12 = .ok (.iconst 1, 1) := by decide +kernel
theorem dX3_has_13 : decode cX3_has 13 = .ok (.goto 4, 3) := by decide +kernel
theorem dX3_has_16 : decode cX3_has 16 = .ok (.iconst 0, 1) := by decide +kernel
theorem dX3_has_17 : decode cX3_has 17 = .ok (.ireturn, 1) := by decide +kernel
theorem dX3_stateOf_0 : decode cX3_stateOf 0 = .ok (.aload_n 0, 1) := by decide +kernel
theorem dX3_stateOf_1 : decode cX3_stateOf 1 = .ok (.iload_n 1, 1) := by decide +kernel
theorem dX3_stateOf_2 : decode cX3_stateOf 2 = .ok (.invokevirtual 37, 3) := by decide +kernel
theorem dX3_stateOf_5 : decode cX3_stateOf 5 = .ok (.ifCond .eq 12, 3) := by decide +kernel
theorem dX3_stateOf_8 : decode cX3_stateOf 8 = .ok (.aload_n 0, 1) := by decide +kernel
theorem dX3_stateOf_9 : decode cX3_stateOf 9 = .ok (.getfield 11, 3) := by decide +kernel
theorem dX3_stateOf_12 : decode cX3_stateOf 12 = .ok (.iload_n 1, 1) := by decide +kernel
theorem dX3_stateOf_13 : decode cX3_stateOf 13 = .ok (.iaload, 1) := by decide +kernel
theorem dX3_stateOf_14 : decode cX3_stateOf 14 = .ok (.goto 4, 3) := by decide +kernel
theorem dX3_stateOf_17 : decode cX3_stateOf 17 = .ok (.iconst (-1), 1) := by decide +kernel
theorem dX3_stateOf_18 : decode cX3_stateOf 18 = .ok (.ireturn, 1) := by decide +kernel
theorem dX3_priceOf_0 : decode cX3_priceOf 0 = .ok (.aload_n 0, 1) := by decide +kernel
theorem dX3_priceOf_1 : decode cX3_priceOf 1 = .ok (.iload_n 1, 1) := by decide +kernel
theorem dX3_priceOf_2 : decode cX3_priceOf 2 = .ok (.invokevirtual 37, 3) := by decide +kernel
theorem dX3_priceOf_5 : decode cX3_priceOf 5 = .ok (.ifCond .eq 12, 3) := by decide +kernel
theorem dX3_priceOf_8 : decode cX3_priceOf 8 = .ok (.aload_n 0, 1) := by decide +kernel
theorem dX3_priceOf_9 : decode cX3_priceOf 9 = .ok (.getfield 24, 3) := by decide +kernel
theorem dX3_priceOf_12 : decode cX3_priceOf 12 = .ok (.iload_n 1, 1) := by decide +kernel
theorem dX3_priceOf_13 : decode cX3_priceOf 13 = .ok (.iaload, 1) := by decide +kernel
theorem dX3_priceOf_14 : decode cX3_priceOf 14 = .ok (.goto 4, 3) := by decide +kernel
theorem dX3_priceOf_17 : decode cX3_priceOf 17 = .ok (.iconst (-1), 1) := by decide +kernel
theorem dX3_priceOf_18 : decode cX3_priceOf 18 = .ok (.ireturn, 1) := by decide +kernel
theorem dX3_tillOf_0 : decode cX3_tillOf 0 = .ok (.aload_n 0, 1) := by decide +kernel
theorem dX3_tillOf_1 : decode cX3_tillOf 1 = .ok (.iload_n 1, 1) := by decide +kernel
theorem dX3_tillOf_2 : decode cX3_tillOf 2 = .ok (.invokevirtual 37, 3) := by decide +kernel
theorem dX3_tillOf_5 : decode cX3_tillOf 5 = .ok (.ifCond .eq 12, 3) := by decide +kernel
theorem dX3_tillOf_8 : decode cX3_tillOf 8 = .ok (.aload_n 0, 1) := by decide +kernel
theorem dX3_tillOf_9 : decode cX3_tillOf 9 = .ok (.getfield 27, 3) := by decide +kernel
theorem dX3_tillOf_12 : decode cX3_tillOf 12 = .ok (.iload_n 1, 1) := by decide +kernel
theorem dX3_tillOf_13 : decode cX3_tillOf 13 = .ok (.iaload, 1) := by decide +kernel
theorem dX3_tillOf_14 : decode cX3_tillOf 14 = .ok (.goto 4, 3) := by decide +kernel
theorem dX3_tillOf_17 : decode cX3_tillOf 17 = .ok (.iconst (-1), 1) := by decide +kernel
theorem dX3_tillOf_18 : decode cX3_tillOf 18 = .ok (.ireturn, 1) := by decide +kernel
theorem dX3_clientOf_0 : decode cX3_clientOf 0 = .ok (.aload_n 0, 1) := by decide +kernel
theorem dX3_clientOf_1 : decode cX3_clientOf 1 = .ok (.iload_n 1, 1) := by decide +kernel
theorem dX3_clientOf_2 : decode cX3_clientOf 2 = .ok (.invokevirtual 37, 3) := by decide +kernel
theorem dX3_clientOf_5 : decode cX3_clientOf 5 = .ok (.ifCond .eq 12, 3) := by decide +kernel
theorem dX3_clientOf_8 : decode cX3_clientOf 8 = .ok (.aload_n 0, 1) := by decide +kernel
theorem dX3_clientOf_9 : decode cX3_clientOf 9 = .ok (.getfield 30, 3) := by decide +kernel
theorem dX3_clientOf_12 : decode cX3_clientOf 12 = .ok (.iload_n 1, 1) := by decide +kernel
theorem dX3_clientOf_13 : decode cX3_clientOf 13 = .ok (.iaload, 1) := by decide +kernel
theorem dX3_clientOf_14 : decode cX3_clientOf 14 = .ok (.goto 4, 3) := by decide +kernel
theorem dX3_clientOf_17 : decode cX3_clientOf 17 = .ok (.iconst (-1), 1) := by decide +kernel
theorem dX3_clientOf_18 : decode cX3_clientOf 18 = .ok (.ireturn, 1) := by decide +kernel
theorem dX3_planeOf_0 : decode cX3_planeOf 0 = .ok (.aload_n 0, 1) := by decide +kernel
theorem dX3_planeOf_1 : decode cX3_planeOf 1 = .ok (.iload_n 1, 1) := by decide +kernel
theorem dX3_planeOf_2 : decode cX3_planeOf 2 = .ok (.invokevirtual 37, 3) := by decide +kernel
theorem dX3_planeOf_5 : decode cX3_planeOf 5 = .ok (.ifCond .eq 12, 3) := by decide +kernel
theorem dX3_planeOf_8 : decode cX3_planeOf 8 = .ok (.aload_n 0, 1) := by decide +kernel
theorem dX3_planeOf_9 : decode cX3_planeOf 9 = .ok (.getfield 18, 3) := by decide +kernel
theorem dX3_planeOf_12 : decode cX3_planeOf 12 = .ok (.iload_n 1, 1) := by decide +kernel
theorem dX3_planeOf_13 : decode cX3_planeOf 13 = .ok (.iaload, 1) := by decide +kernel
theorem dX3_planeOf_14 : decode cX3_planeOf 14 = .ok (.goto 4, 3) := by decide +kernel
theorem dX3_planeOf_17 : decode cX3_planeOf 17 = .ok (.iconst (-1), 1) := by decide +kernel
theorem dX3_planeOf_18 : decode cX3_planeOf 18 = .ok (.ireturn, 1) := by decide +kernel
theorem dX3_flightOf_0 : decode cX3_flightOf 0 = .ok (.aload_n 0, 1) := by decide +kernel
theorem dX3_flightOf_1 : decode cX3_flightOf 1 = .ok (.iload_n 1, 1) := by decide +kernel
theorem dX3_flightOf_2 : decode cX3_flightOf 2 = .ok (.invokevirtual 37, 3) := by decide +kernel
theorem dX3_flightOf_5 : decode cX3_flightOf 5 = .ok (.ifCond .eq 12, 3) := by decide +kernel
theorem dX3_flightOf_8 : decode cX3_flightOf 8 = .ok (.aload_n 0, 1) := by decide +kernel
theorem dX3_flightOf_9 : decode cX3_flightOf 9 = .ok (.getfield 21, 3) := by decide +kernel
theorem dX3_flightOf_12 : decode cX3_flightOf 12 = .ok (.iload_n 1, 1) := by decide +kernel
theorem dX3_flightOf_13 : decode cX3_flightOf 13 = .ok (.iaload, 1) := by decide +kernel
theorem dX3_flightOf_14 : decode cX3_flightOf 14 = .ok (.goto 4, 3) := by decide +kernel
theorem dX3_flightOf_17 : decode cX3_flightOf 17 = .ok (.iconst (-1), 1) := by decide +kernel
theorem dX3_flightOf_18 : decode cX3_flightOf 18 = .ok (.ireturn, 1) := by decide +kernel
theorem dX4_init_0 : decode cX4_init 0 = .ok (.aload_n 0, 1) := by decide +kernel
theorem dX4_init_1 : decode cX4_init 1 = .ok (.invokespecial 3, 3) := by decide +kernel
theorem dX4_init_4 : decode cX4_init 4 = .ok (.aload_n 0, 1) := by decide +kernel
theorem dX4_init_5 : decode cX4_init 5 = .ok (.iconst 4, 1) := by decide +kernel
theorem dX4_init_6 : decode cX4_init 6 = .ok (.newarray .int, 2) := by decide +kernel
theorem dX4_init_8 : decode cX4_init 8 = .ok (.putfield 11, 3) := by decide +kernel
theorem dX4_init_11 : decode cX4_init 11 = .ok (.aload_n 0, 1) := by decide +kernel
theorem dX4_init_12 : decode cX4_init 12 = .ok (.iconst 4, 1) := by decide +kernel
theorem dX4_init_13 : decode cX4_init 13 = .ok (.newarray .int, 2) := by decide +kernel
theorem dX4_init_15 : decode cX4_init 15 = .ok (.putfield 15, 3) := by decide +kernel
theorem dX4_init_18 : decode cX4_init 18 = .ok (.aload_n 0, 1) := by decide +kernel
theorem dX4_init_19 : decode cX4_init 19 = .ok (.iconst 4, 1) := by decide +kernel
theorem dX4_init_20 : decode cX4_init 20 = .ok (.newarray .int, 2) := by decide +kernel
theorem dX4_init_22 : decode cX4_init 22 = .ok (.putfield 18, 3) := by decide +kernel
theorem dX4_init_25 : decode cX4_init 25 = .ok (.aload_n 0, 1) := by decide +kernel
theorem dX4_init_26 : decode cX4_init 26 = .ok (.iconst 4, 1) := by decide +kernel
theorem dX4_init_27 : decode cX4_init 27 = .ok (.newarray .int, 2) := by decide +kernel
theorem dX4_init_29 : decode cX4_init 29 = .ok (.putfield 21, 3) := by decide +kernel
theorem dX4_init_32 : decode cX4_init 32 = .ok (.return_, 1) := by decide +kernel
theorem dX4_add_0 : decode cX4_add 0 = .ok (.aload_n 0, 1) := by decide +kernel
theorem dX4_add_1 : decode cX4_add 1 = .ok (.getfield 24, 3) := by decide +kernel
theorem dX4_add_4 : decode cX4_add 4 = .ok (.iconst 4, 1) := by decide +kernel
theorem dX4_add_5 : decode cX4_add 5 = .ok (.if_icmp .lt 5, 3) := by decide +kernel
theorem dX4_add_8 : decode cX4_add 8 = .ok (.iconst (-1), 1) := by decide +kernel
theorem dX4_add_9 : decode cX4_add 9 = .ok (.ireturn, 1) := by decide +kernel
theorem dX4_add_10 : decode cX4_add 10 = .ok (.aload_n 0, 1) := by decide +kernel
theorem dX4_add_11 : decode cX4_add 11 = .ok (.getfield 11, 3) := by decide +kernel
theorem dX4_add_14 : decode cX4_add 14 = .ok (.aload_n 0, 1) := by decide +kernel
theorem dX4_add_15 : decode cX4_add 15 = .ok (.getfield 24, 3) := by decide +kernel
theorem dX4_add_18 : decode cX4_add 18 = .ok (.iload_n 1, 1) := by decide +kernel
theorem dX4_add_19 : decode cX4_add 19 = .ok (.iastore, 1) := by decide +kernel
theorem dX4_add_20 : decode cX4_add 20 = .ok (.aload_n 0, 1) := by decide +kernel
theorem dX4_add_21 : decode cX4_add 21 = .ok (.getfield 15, 3) := by decide +kernel
theorem dX4_add_24 : decode cX4_add 24 = .ok (.aload_n 0, 1) := by decide +kernel
theorem dX4_add_25 : decode cX4_add 25 = .ok (.getfield 24, 3) := by decide +kernel
theorem dX4_add_28 : decode cX4_add 28 = .ok (.iload_n 2, 1) := by decide +kernel
theorem dX4_add_29 : decode cX4_add 29 = .ok (.iastore, 1) := by decide +kernel
theorem dX4_add_30 : decode cX4_add 30 = .ok (.aload_n 0, 1) := by decide +kernel
theorem dX4_add_31 : decode cX4_add 31 = .ok (.getfield 18, 3) := by decide +kernel
theorem dX4_add_34 : decode cX4_add 34 = .ok (.aload_n 0, 1) := by decide +kernel
theorem dX4_add_35 : decode cX4_add 35 = .ok (.getfield 24, 3) := by decide +kernel
theorem dX4_add_38 : decode cX4_add 38 = .ok (.iload_n 3, 1) := by decide +kernel
theorem dX4_add_39 : decode cX4_add 39 = .ok (.iastore, 1) := by decide +kernel
theorem dX4_add_40 : decode cX4_add 40 = .ok (.aload_n 0, 1) := by decide +kernel
theorem dX4_add_41 : decode cX4_add 41 = .ok (.getfield 21, 3) := by decide +kernel
theorem dX4_add_44 : decode cX4_add 44 = .ok (.aload_n 0, 1) := by decide +kernel
theorem dX4_add_45 : decode cX4_add 45 = .ok (.getfield 24, 3) := by decide +kernel
theorem dX4_add_48 : decode cX4_add 48 = .ok (.iload 4, 2) := by decide +kernel
theorem dX4_add_50 : decode cX4_add 50 = .ok (.iastore, 1) := by decide +kernel
theorem dX4_add_51 : decode cX4_add 51 = .ok (.aload_n 0, 1) := by decide +kernel
theorem dX4_add_52 : decode cX4_add 52 = .ok (.dup, 1) := by decide +kernel
theorem dX4_add_53 : decode cX4_add 53 = .ok (.getfield 24, 3) := by decide +kernel
theorem dX4_add_56 : decode cX4_add 56 = .ok (.iconst 1, 1) := by decide +kernel
theorem dX4_add_57 : decode cX4_add 57 = .ok (.iadd, 1) := by decide +kernel
theorem dX4_add_58 : decode cX4_add 58 = .ok (.putfield 24, 3) := by decide +kernel
theorem dX4_add_61 : decode cX4_add 61 = .ok (.aload_n 0, 1) := by decide +kernel
theorem dX4_add_62 : decode cX4_add 62 = .ok (.getfield 24, 3) := by decide +kernel
theorem dX4_add_65 : decode cX4_add 65 = .ok (.iconst 1, 1) := by decide +kernel
theorem dX4_add_66 : decode cX4_add 66 = .ok (.isub, 1) := by decide +kernel
theorem dX4_add_67 : decode cX4_add 67 = .ok (.ireturn, 1) := by decide +kernel
theorem dX4_size_0 : decode cX4_size 0 = .ok (.aload_n 0, 1) := by decide +kernel
theorem dX4_size_1 : decode cX4_size 1 = .ok (.getfield 24, 3) := by decide +kernel
theorem dX4_size_4 : decode cX4_size 4 = .ok (.ireturn, 1) := by decide +kernel
theorem dX4_has_0 : decode cX4_has 0 = .ok (.iload_n 1, 1) := by decide +kernel
theorem dX4_has_1 : decode cX4_has 1 = .ok (.ifCond .lt 15, 3) := by decide +kernel
theorem dX4_has_4 : decode cX4_has 4 = .ok (.iload_n 1, 1) := by decide +kernel
theorem dX4_has_5 : decode cX4_has 5 = .ok (.aload_n 0, 1) := by decide +kernel
theorem dX4_has_6 : decode cX4_has 6 = .ok (.getfield 24, 3) := by decide +kernel
theorem dX4_has_9 : decode cX4_has 9 = .ok (.if_icmp .ge 7, 3) := by decide +kernel
theorem dX4_has_12 : decode cX4_has 12 = .ok (.iconst 1, 1) := by decide +kernel
theorem dX4_has_13 : decode cX4_has 13 = .ok (.goto 4, 3) := by decide +kernel
theorem dX4_has_16 : decode cX4_has 16 = .ok (.iconst 0, 1) := by decide +kernel
theorem dX4_has_17 : decode cX4_has 17 = .ok (.ireturn, 1) := by decide +kernel
theorem dX4_homeOf_0 : decode cX4_homeOf 0 = .ok (.aload_n 0, 1) := by decide +kernel
theorem dX4_homeOf_1 : decode cX4_homeOf 1 = .ok (.iload_n 1, 1) := by decide +kernel
theorem dX4_homeOf_2 : decode cX4_homeOf 2 = .ok (.invokevirtual 28, 3) := by decide +kernel
theorem dX4_homeOf_5 : decode cX4_homeOf 5 = .ok (.ifCond .eq 12, 3) := by decide +kernel
theorem dX4_homeOf_8 : decode cX4_homeOf 8 = .ok (.aload_n 0, 1) := by decide +kernel
theorem dX4_homeOf_9 : decode cX4_homeOf 9 = .ok (.getfield 11, 3) := by decide +kernel
theorem dX4_homeOf_12 : decode cX4_homeOf 12 = .ok (.iload_n 1, 1) := by decide +kernel
theorem dX4_homeOf_13 : decode cX4_homeOf 13 = .ok (.iaload, 1) := by decide +kernel
theorem dX4_homeOf_14 : decode cX4_homeOf 14 = .ok (.goto 4, 3) := by decide +kernel
theorem dX4_homeOf_17 : decode cX4_homeOf 17 = .ok (.iconst (-1), 1) := by decide +kernel
theorem dX4_homeOf_18 : decode cX4_homeOf 18 = .ok (.ireturn, 1) := by decide +kernel
theorem dX4_seatsOf_0 : decode cX4_seatsOf 0 = .ok (.aload_n 0, 1) := by decide +kernel
theorem dX4_seatsOf_1 : decode cX4_seatsOf 1 = .ok (.iload_n 1, 1) := by decide +kernel
theorem dX4_seatsOf_2 : decode cX4_seatsOf 2 = .ok (.invokevirtual 28, 3) := by decide +kernel
theorem dX4_seatsOf_5 : decode cX4_seatsOf 5 = .ok (.ifCond .eq 12, 3) := by decide +kernel
theorem dX4_seatsOf_8 : decode cX4_seatsOf 8 = .ok (.aload_n 0, 1) := by decide +kernel
theorem dX4_seatsOf_9 : decode cX4_seatsOf 9 = .ok (.getfield 15, 3) := by decide +kernel
theorem dX4_seatsOf_12 : decode cX4_seatsOf 12 = .ok (.iload_n 1, 1) := by decide +kernel
theorem dX4_seatsOf_13 : decode cX4_seatsOf 13 = .ok (.iaload, 1) := by decide +kernel
theorem dX4_seatsOf_14 : decode cX4_seatsOf 14 = .ok (.goto 4, 3) := by decide +kernel
theorem dX4_seatsOf_17 : decode cX4_seatsOf 17 = .ok (.iconst (-1), 1) := by decide +kernel
theorem dX4_seatsOf_18 : decode cX4_seatsOf 18 = .ok (.ireturn, 1) := by decide +kernel
theorem dX4_turnOf_0 : decode cX4_turnOf 0 = .ok (.aload_n 0, 1) := by decide +kernel
theorem dX4_turnOf_1 : decode cX4_turnOf 1 = .ok (.iload_n 1, 1) := by decide +kernel
theorem dX4_turnOf_2 : decode cX4_turnOf 2 = .ok (.invokevirtual 28, 3) := by decide +kernel
theorem dX4_turnOf_5 : decode cX4_turnOf 5 = .ok (.ifCond .eq 12, 3) := by decide +kernel
theorem dX4_turnOf_8 : decode cX4_turnOf 8 = .ok (.aload_n 0, 1) := by decide +kernel
theorem dX4_turnOf_9 : decode cX4_turnOf 9 = .ok (.getfield 18, 3) := by decide +kernel
theorem dX4_turnOf_12 : decode cX4_turnOf 12 = .ok (.iload_n 1, 1) := by decide +kernel
theorem dX4_turnOf_13 : decode cX4_turnOf 13 = .ok (.iaload, 1) := by decide +kernel
theorem dX4_turnOf_14 : decode cX4_turnOf 14 = .ok (.goto 4, 3) := by decide +kernel
theorem dX4_turnOf_17 : decode cX4_turnOf 17 = .ok (.iconst (-1), 1) := by decide +kernel
theorem dX4_turnOf_18 : decode cX4_turnOf 18 = .ok (.ireturn, 1) := by decide +kernel
theorem dX4_rateOf_0 : decode cX4_rateOf 0 = .ok (.aload_n 0, 1) := by decide +kernel
theorem dX4_rateOf_1 : decode cX4_rateOf 1 = .ok (.iload_n 1, 1) := by decide +kernel
theorem dX4_rateOf_2 : decode cX4_rateOf 2 = .ok (.invokevirtual 28, 3) := by decide +kernel
theorem dX4_rateOf_5 : decode cX4_rateOf 5 = .ok (.ifCond .eq 12, 3) := by decide +kernel
theorem dX4_rateOf_8 : decode cX4_rateOf 8 = .ok (.aload_n 0, 1) := by decide +kernel
theorem dX4_rateOf_9 : decode cX4_rateOf 9 = .ok (.getfield 21, 3) := by decide +kernel
theorem dX4_rateOf_12 : decode cX4_rateOf 12 = .ok (.iload_n 1, 1) := by decide +kernel
theorem dX4_rateOf_13 : decode cX4_rateOf 13 = .ok (.iaload, 1) := by decide +kernel
theorem dX4_rateOf_14 : decode cX4_rateOf 14 = .ok (.goto 4, 3) := by decide +kernel
theorem dX4_rateOf_17 : decode cX4_rateOf 17 = .ok (.iconst (-1), 1) := by decide +kernel
theorem dX4_rateOf_18 : decode cX4_rateOf 18 = .ok (.ireturn, 1) := by decide +kernel
theorem dX5_init_0 : decode cX5_init 0 = .ok (.aload_n 0, 1) := by decide +kernel
theorem dX5_init_1 : decode cX5_init 1 = .ok (.invokespecial 7, 3) := by decide +kernel
theorem dX5_init_4 : decode cX5_init 4 = .ok (.aload_n 0, 1) := by decide +kernel
theorem dX5_init_5 : decode cX5_init 5 = .ok (.bipush 8, 2) := by decide +kernel
theorem dX5_init_7 : decode cX5_init 7 = .ok (.newarray .int, 2) := by decide +kernel
theorem dX5_init_9 : decode cX5_init 9 = .ok (.putfield 13, 3) := by decide +kernel
theorem dX5_init_12 : decode cX5_init 12 = .ok (.aload_n 0, 1) := by decide +kernel
theorem dX5_init_13 : decode cX5_init 13 = .ok (.bipush 8, 2) := by decide +kernel
theorem dX5_init_15 : decode cX5_init 15 = .ok (.newarray .long, 2) := by decide +kernel
theorem dX5_init_17 : decode cX5_init 17 = .ok (.putfield 17, 3) := by decide +kernel
theorem dX5_init_20 : decode cX5_init 20 = .ok (.aload_n 0, 1) := by decide +kernel
theorem dX5_init_21 : decode cX5_init 21 = .ok (.sipush 256, 3) := by decide +kernel
theorem dX5_init_24 : decode cX5_init 24 = .ok (.newarray .long, 2) := by decide +kernel
theorem dX5_init_26 : decode cX5_init 26 = .ok (.putfield 21, 3) := by decide +kernel
theorem dX5_init_29 : decode cX5_init 29 = .ok (.aload_n 0, 1) := by decide +kernel
theorem dX5_init_30 : decode cX5_init 30 = .ok (.sipush 256, 3) := by decide +kernel
theorem dX5_init_33 : decode cX5_init 33 = .ok (.newarray .long, 2) := by decide +kernel
theorem dX5_init_35 : decode cX5_init 35 = .ok (.putfield 24, 3) := by decide +kernel
theorem dX5_init_38 : decode cX5_init 38 = .ok (.aload_n 0, 1) := by decide +kernel
theorem dX5_init_39 : decode cX5_init 39 = .ok (.sipush 256, 3) := by decide +kernel
theorem dX5_init_42 : decode cX5_init 42 = .ok (.newarray .int, 2) := by decide +kernel
theorem dX5_init_44 : decode cX5_init 44 = .ok (.putfield 27, 3) := by decide +kernel
theorem dX5_init_47 : decode cX5_init 47 = .ok (.aload_n 0, 1) := by decide +kernel
theorem dX5_init_48 : decode cX5_init 48 = .ok (.sipush 256, 3) := by decide +kernel
theorem dX5_init_51 : decode cX5_init 51 = .ok (.newarray .int, 2) := by decide +kernel
theorem dX5_init_53 : decode cX5_init 53 = .ok (.putfield 30, 3) := by decide +kernel
theorem dX5_init_56 : decode cX5_init 56 = .ok (.aload_n 0, 1) := by decide +kernel
theorem dX5_init_57 : decode cX5_init 57 = .ok (.sipush 256, 3) := by decide +kernel
theorem dX5_init_60 : decode cX5_init 60 = .ok (.newarray .int, 2) := by decide +kernel
theorem dX5_init_62 : decode cX5_init 62 = .ok (.putfield 33, 3) := by decide +kernel
theorem dX5_init_65 : decode cX5_init 65 = .ok (.aload_n 0, 1) := by decide +kernel
theorem dX5_init_66 : decode cX5_init 66 = .ok (.aload_n 1, 1) := by decide +kernel
theorem dX5_init_67 : decode cX5_init 67 = .ok (.putfield 36, 3) := by decide +kernel
theorem dX5_init_70 : decode cX5_init 70 = .ok (.aload_n 0, 1) := by decide +kernel
theorem dX5_init_71 : decode cX5_init 71 = .ok (.aload_n 2, 1) := by decide +kernel
theorem dX5_init_72 : decode cX5_init 72 = .ok (.putfield 40, 3) := by decide +kernel
theorem dX5_init_75 : decode cX5_init 75 = .ok (.aload_n 0, 1) := by decide +kernel
theorem dX5_init_76 : decode cX5_init 76 = .ok (.aload_n 3, 1) := by decide +kernel
theorem dX5_init_77 : decode cX5_init 77 = .ok (.putfield 44, 3) := by decide +kernel
theorem dX5_init_80 : decode cX5_init 80 = .ok (.aload_n 0, 1) := by decide +kernel
theorem dX5_init_81 : decode cX5_init 81 = .ok (.aload 4, 2) := by decide +kernel
theorem dX5_init_83 : decode cX5_init 83 = .ok (.putfield 48, 3) := by decide +kernel
theorem dX5_init_86 : decode cX5_init 86 = .ok (.return_, 1) := by decide +kernel
theorem dX5_settle_0 : decode cX5_settle 0 = .ok (.aload_n 0, 1) := by decide +kernel
theorem dX5_settle_1 : decode cX5_settle 1 = .ok (.iload_n 1, 1) := by decide +kernel
theorem dX5_settle_2 : decode cX5_settle 2 = .ok (.ifCond .eq 9, 3) := by decide +kernel
theorem dX5_settle_5 : decode cX5_settle 5 = .ok (.ldc2_w 52, 3) := by decide +kernel
theorem dX5_settle_8 : decode cX5_settle 8 = .ok (.goto 4, 3) := by decide +kernel
theorem dX5_settle_11 : decode cX5_settle 11 = .ok (.lconst 0, 1) := by decide +kernel
theorem dX5_settle_12 : decode cX5_settle 12 = .ok (.putfield 54, 3) := by decide +kernel
theorem dX5_settle_15 : decode cX5_settle 15 = .ok (.aload_n 0, 1) := by decide +kernel
theorem dX5_settle_16 : decode cX5_settle 16 = .ok (.invokevirtual 58, 3) := by decide +kernel
theorem dX5_settle_19 : decode cX5_settle 19 = .ok (.iconst 0, 1) := by decide +kernel
theorem dX5_settle_20 : decode cX5_settle 20 = .ok (.istore_n 2, 1) := by decide +kernel
theorem dX5_settle_21 : decode cX5_settle 21 = .ok (.iload_n 2, 1) := by decide +kernel
theorem dX5_settle_22 : decode cX5_settle 22 = .ok (.aload_n 0, 1) := by decide +kernel
theorem dX5_settle_23 : decode cX5_settle 23 = .ok (.getfield 36, 3) := by decide +kernel
theorem dX5_settle_26 : decode cX5_settle 26 = .ok (.invokevirtual 61, 3) := by decide +kernel
theorem dX5_settle_29 : decode cX5_settle 29 = .ok (.if_icmp .ge 18, 3) := by decide +kernel
theorem dX5_settle_32 : decode cX5_settle 32 = .ok (.aload_n 0, 1) := by decide +kernel
theorem dX5_settle_33 : decode cX5_settle 33 = .ok (.iload_n 2, 1) := by decide +kernel
theorem dX5_settle_34 : decode cX5_settle 34 = .ok (.invokevirtual 67, 3) := by decide +kernel
theorem dX5_settle_37 : decode cX5_settle 37 = .ok (.aload_n 0, 1) := by decide +kernel
theorem dX5_settle_38 : decode cX5_settle 38 = .ok (.invokevirtual 71, 3) := by decide +kernel
theorem dX5_settle_41 : decode cX5_settle 41 = .ok (.iinc 2 1, 3) := by decide +kernel
theorem dX5_settle_44 : decode cX5_settle 44 = .ok (.goto (-23), 3) := by decide +kernel
theorem dX5_settle_47 : decode cX5_settle 47 = .ok (.aload_n 0, 1) := by decide +kernel
theorem dX5_settle_48 : decode cX5_settle 48 = .ok (.invokevirtual 74, 3) := by decide +kernel
theorem dX5_settle_51 : decode cX5_settle 51 = .ok (.aload_n 0, 1) := by decide +kernel
theorem dX5_settle_52 : decode cX5_settle 52 = .ok (.iconst 1, 1) := by decide +kernel
theorem dX5_settle_53 : decode cX5_settle 53 = .ok (.aload_n 0, 1) := by decide +kernel
theorem dX5_settle_54 : decode cX5_settle 54 = .ok (.getfield 77, 3) := by decide +kernel
theorem dX5_settle_57 : decode cX5_settle 57 = .ok (.ishl, 1) := by decide +kernel
theorem dX5_settle_58 : decode cX5_settle 58 = .ok (.iconst 1, 1) := by decide +kernel
theorem dX5_settle_59 : decode cX5_settle 59 = .ok (.isub, 1) := by decide +kernel
theorem dX5_settle_60 : decode cX5_settle 60 = .ok (.invokevirtual 81, 3) := by decide +kernel
theorem dX5_settle_63 : decode cX5_settle 63 = .ok (.lstore_n 2, 1) := by decide +kernel
theorem dX5_settle_64 : decode cX5_settle 64 = .ok (.aload_n 0, 1) := by decide +kernel
theorem dX5_settle_65 : decode cX5_settle 65 = .ok (.lload_n 2, 1) := by decide +kernel
theorem dX5_settle_66 : decode cX5_settle 66 = .ok (.ldc2_w 85, 3) := by decide +kernel
theorem dX5_settle_69 : decode cX5_settle 69 = .ok (.lrem, 1) := by decide +kernel
theorem dX5_settle_70 : decode cX5_settle 70 = .ok (.invokevirtual 87, 3) := by decide +kernel
theorem dX5_settle_73 : decode cX5_settle 73 = .ok (.lload_n 2, 1) := by decide +kernel
theorem dX5_settle_74 : decode cX5_settle 74 = .ok (.ldc2_w 91, 3) := by decide +kernel
theorem dX5_settle_77 : decode cX5_settle 77 = .ok (.lrem, 1) := by decide +kernel
theorem dX5_settle_78 : decode cX5_settle 78 = .ok (.ldc2_w 52, 3) := by decide +kernel
theorem dX5_settle_81 : decode cX5_settle 81 = .ok (.ldiv, 1) := by decide +kernel
theorem dX5_settle_82 : decode cX5_settle 82 = .ok (.l2i, 1) := by decide +kernel
theorem dX5_settle_83 : decode cX5_settle 83 = .ok (.ireturn, 1) := by decide +kernel
theorem dX5_holds_0 : decode cX5_holds 0 = .ok (.iconst 0, 1) := by decide +kernel
theorem dX5_holds_1 : decode cX5_holds 1 = .ok (.istore_n 1, 1) := by decide +kernel
theorem dX5_holds_2 : decode cX5_holds 2 = .ok (.iload_n 1, 1) := by decide +kernel
theorem dX5_holds_3 : decode cX5_holds 3 = .ok (.aload_n 0, 1) := by decide +kernel
theorem dX5_holds_4 : decode cX5_holds 4 = .ok (.getfield 36, 3) := by decide +kernel
theorem dX5_holds_7 : decode cX5_holds 7 = .ok (.invokevirtual 61, 3) := by decide +kernel
theorem dX5_holds_10 : decode cX5_holds 10 = .ok (.if_icmp .ge 71, 3) := by decide +kernel
theorem dX5_holds_13 : decode cX5_holds 13 = .ok (.aload_n 0, 1) := by decide +kernel
theorem dX5_holds_14 : decode cX5_holds 14 = .ok (.getfield 48, 3) := by decide +kernel
theorem dX5_holds_17 : decode cX5_holds 17 = .ok (.iload_n 1, 1) := by decide +kernel
theorem dX5_holds_18 : decode cX5_holds 18 = .ok (.invokevirtual 93, 3) := by decide +kernel
theorem dX5_holds_21 : decode cX5_holds 21 = .ok (.iconst 0, 1) := by decide +kernel
theorem dX5_holds_22 : decode cX5_holds 22 = .ok (.istore_n 2, 1) := by decide +kernel
theorem dX5_holds_23 : decode cX5_holds 23 = .ok (.iload_n 2, 1) := by decide +kernel
theorem dX5_holds_24 : decode cX5_holds 24 = .ok (.aload_n 0, 1) := by decide +kernel
theorem dX5_holds_25 : decode cX5_holds 25 = .ok (.getfield 40, 3) := by decide +kernel
theorem dX5_holds_28 : decode cX5_holds 28 = .ok (.invokevirtual 98, 3) := by decide +kernel
theorem dX5_holds_31 : decode cX5_holds 31 = .ok (.if_icmp .ge 44, 3) := by decide +kernel
theorem dX5_holds_34 : decode cX5_holds 34 = .ok (.aload_n 0, 1) := by decide +kernel
theorem dX5_holds_35 : decode cX5_holds 35 = .ok (.getfield 40, 3) := by decide +kernel
theorem dX5_holds_38 : decode cX5_holds 38 = .ok (.iload_n 2, 1) := by decide +kernel
theorem dX5_holds_39 : decode cX5_holds 39 = .ok (.invokevirtual 99, 3) := by decide +kernel
theorem dX5_holds_42 : decode cX5_holds 42 = .ok (.istore_n 3, 1) := by decide +kernel
theorem dX5_holds_43 : decode cX5_holds 43 = .ok (.aload_n 0, 1) := by decide +kernel
theorem dX5_holds_44 : decode cX5_holds 44 = .ok (.getfield 44, 3) := by decide +kernel
theorem dX5_holds_47 : decode cX5_holds 47 = .ok (.iload_n 3, 1) := by decide +kernel
theorem dX5_holds_48 : decode cX5_holds 48 = .ok (.invokevirtual 103, 3) := by decide +kernel
theorem dX5_holds_51 : decode cX5_holds 51 = .ok (.iload_n 1, 1) := by decide +kernel
theorem dX5_holds_52 : decode cX5_holds 52 = .ok (.if_icmp .ne 17, 3) := by decide +kernel
theorem dX5_holds_55 : decode cX5_holds 55 = .ok (.aload_n 0, 1) := by decide +kernel
theorem dX5_holds_56 : decode cX5_holds 56 = .ok (.getfield 48, 3) := by decide +kernel
theorem dX5_holds_59 : decode cX5_holds 59 = .ok (.iload_n 3, 1) := by decide +kernel
theorem dX5_holds_60 : decode cX5_holds 60 = .ok (.invokevirtual 108, 3) := by decide +kernel
theorem dX5_holds_63 : decode cX5_holds 63 = .ok (.iconst (-1), 1) := by decide +kernel
theorem dX5_holds_64 : decode cX5_holds 64 = .ok (.if_icmp .ne 5, 3) := by decide +kernel
theorem dX5_holds_67 : decode cX5_holds 67 = .ok (.iconst 0, 1) := by decide +kernel
theorem dX5_holds_68 : decode cX5_holds 68 = .ok (.ireturn, 1) := by decide +kernel
theorem dX5_holds_69 : decode cX5_holds 69 = .ok (.iinc 2 1, 3) := by decide +kernel
theorem dX5_holds_72 : decode cX5_holds 72 = .ok (.goto (-49), 3) := by decide +kernel
theorem dX5_holds_75 : decode cX5_holds 75 = .ok (.iinc 1 1, 3) := by decide +kernel
theorem dX5_holds_78 : decode cX5_holds 78 = .ok (.goto (-76), 3) := by decide +kernel
theorem dX5_holds_81 : decode cX5_holds 81 = .ok (.iconst 1, 1) := by decide +kernel
theorem dX5_holds_82 : decode cX5_holds 82 = .ok (.ireturn, 1) := by decide +kernel
theorem dX5_lineUp_0 : decode cX5_lineUp 0 = .ok (.aload_n 0, 1) := by decide +kernel
theorem dX5_lineUp_1 : decode cX5_lineUp 1 = .ok (.iconst 0, 1) := by decide +kernel
theorem dX5_lineUp_2 : decode cX5_lineUp 2 = .ok (.putfield 77, 3) := by decide +kernel
theorem dX5_lineUp_5 : decode cX5_lineUp 5 = .ok (.iconst 0, 1) := by decide +kernel
theorem dX5_lineUp_6 : decode cX5_lineUp 6 = .ok (.istore_n 1, 1) := by decide +kernel
theorem dX5_lineUp_7 : decode cX5_lineUp 7 = .ok (.iload_n 1, 1) := by decide +kernel
theorem dX5_lineUp_8 : decode cX5_lineUp 8 = .ok (.aload_n 0, 1) := by decide +kernel
theorem dX5_lineUp_9 : decode cX5_lineUp 9 = .ok (.getfield 40, 3) := by decide +kernel
theorem dX5_lineUp_12 : decode cX5_lineUp 12 = .ok (.invokevirtual 98, 3) := by decide +kernel
theorem dX5_lineUp_15 : decode cX5_lineUp 15 = .ok (.if_icmp .ge 58, 3) := by decide +kernel
theorem dX5_lineUp_18 : decode cX5_lineUp 18 = .ok (.aload_n 0, 1) := by decide +kernel
theorem dX5_lineUp_19 : decode cX5_lineUp 19 = .ok (.getfield 40, 3) := by decide +kernel
theorem dX5_lineUp_22 : decode cX5_lineUp 22 = .ok (.iload_n 1, 1) := by decide +kernel
theorem dX5_lineUp_23 : decode cX5_lineUp 23 = .ok (.invokevirtual 99, 3) := by decide +kernel
theorem dX5_lineUp_26 : decode cX5_lineUp 26 = .ok (.istore_n 2, 1) := by decide +kernel
theorem dX5_lineUp_27 : decode cX5_lineUp 27 = .ok (.aload_n 0, 1) := by decide +kernel
theorem dX5_lineUp_28 : decode cX5_lineUp 28 = .ok (.getfield 40, 3) := by decide +kernel
theorem dX5_lineUp_31 : decode cX5_lineUp 31 = .ok (.iload_n 2, 1) := by decide +kernel
theorem dX5_lineUp_32 : decode cX5_lineUp 32 = .ok (.invokevirtual 111, 3) := by decide +kernel
theorem dX5_lineUp_35 : decode cX5_lineUp 35 = .ok (.ifCond .eq 32, 3) := by decide +kernel
theorem dX5_lineUp_38 : decode cX5_lineUp 38 = .ok (.aload_n 0, 1) := by decide +kernel
theorem dX5_lineUp_39 : decode cX5_lineUp 39 = .ok (.getfield 77, 3) := by decide +kernel
theorem dX5_lineUp_42 : decode cX5_lineUp 42 = .ok (.bipush 8, 2) := by decide +kernel
theorem dX5_lineUp_44 : decode cX5_lineUp 44 = .ok (.if_icmp .ge 23, 3) := by decide +kernel
theorem dX5_lineUp_47 : decode cX5_lineUp 47 = .ok (.aload_n 0, 1) := by decide +kernel
theorem dX5_lineUp_48 : decode cX5_lineUp 48 = .ok (.getfield 13, 3) := by decide +kernel
theorem dX5_lineUp_51 : decode cX5_lineUp 51 = .ok (.aload_n 0, 1) := by decide +kernel
theorem dX5_lineUp_52 : decode cX5_lineUp 52 = .ok (.getfield 77, 3) := by decide +kernel
theorem dX5_lineUp_55 : decode cX5_lineUp 55 = .ok (.iload_n 2, 1) := by decide +kernel
theorem dX5_lineUp_56 : decode cX5_lineUp 56 = .ok (.iastore, 1) := by decide +kernel
theorem dX5_lineUp_57 : decode cX5_lineUp 57 = .ok (.aload_n 0, 1) := by decide +kernel
theorem dX5_lineUp_58 : decode cX5_lineUp 58 = .ok (.dup, 1) := by decide +kernel
theorem dX5_lineUp_59 : decode cX5_lineUp 59 = .ok (.getfield 77, 3) := by decide +kernel
theorem dX5_lineUp_62 : decode cX5_lineUp 62 = .ok (.iconst 1, 1) := by decide +kernel
theorem dX5_lineUp_63 : decode cX5_lineUp 63 = .ok (.iadd, 1) := by decide +kernel
theorem dX5_lineUp_64 : decode cX5_lineUp 64 = .ok (.putfield 77, 3) := by decide +kernel
theorem dX5_lineUp_67 : decode cX5_lineUp 67 = .ok (.iinc 1 1, 3) := by decide +kernel
theorem dX5_lineUp_70 : decode cX5_lineUp 70 = .ok (.goto (-63), 3) := by decide +kernel
theorem dX5_lineUp_73 : decode cX5_lineUp 73 = .ok (.lconst 1, 1) := by decide +kernel
theorem dX5_lineUp_74 : decode cX5_lineUp 74 = .ok (.lstore_n 1, 1) := by decide +kernel
theorem dX5_lineUp_75 : decode cX5_lineUp 75 = .ok (.aload_n 0, 1) := by decide +kernel
theorem dX5_lineUp_76 : decode cX5_lineUp 76 = .ok (.getfield 77, 3) := by decide +kernel
theorem dX5_lineUp_79 : decode cX5_lineUp 79 = .ok (.iconst 1, 1) := by decide +kernel
theorem dX5_lineUp_80 : decode cX5_lineUp 80 = .ok (.isub, 1) := by decide +kernel
theorem dX5_lineUp_81 : decode cX5_lineUp 81 = .ok (.istore_n 3, 1) := by decide +kernel
theorem dX5_lineUp_82 : decode cX5_lineUp 82 = .ok (.iload_n 3, 1) := by decide +kernel
theorem dX5_lineUp_83 : decode cX5_lineUp 83 = .ok (.ifCond .lt 22, 3) := by decide +kernel
theorem dX5_lineUp_86 : decode cX5_lineUp 86 = .ok (.aload_n 0, 1) := by decide +kernel
theorem dX5_lineUp_87 : decode cX5_lineUp 87 = .ok (.getfield 17, 3) := by decide +kernel
theorem dX5_lineUp_90 : decode cX5_lineUp 90 = .ok (.iload_n 3, 1) := by decide +kernel
theorem dX5_lineUp_91 : decode cX5_lineUp 91 = .ok (.lload_n 1, 1) := by decide +kernel
theorem dX5_lineUp_92 : decode cX5_lineUp 92 = .ok (.lastore, 1) := by decide +kernel
theorem dX5_lineUp_93 : decode cX5_lineUp 93 = .ok (.lload_n 1, 1) := by decide +kernel
theorem dX5_lineUp_94 : decode cX5_lineUp 94 = .ok (.ldc2_w 115, 3) := by decide +kernel
theorem dX5_lineUp_97 : decode cX5_lineUp 97 = .ok (.lmul, 1) := by decide +kernel
theorem dX5_lineUp_98 : decode cX5_lineUp 98 = .ok (.lstore_n 1, 1) := by decide +kernel
theorem dX5_lineUp_99 : decode cX5_lineUp 99 = .ok (.iinc 3 (-1), 3) := by decide +kernel
theorem dX5_lineUp_102 : decode cX5_lineUp 102 = .ok (.goto (-20), 3) := by decide +kernel
theorem dX5_lineUp_105 : decode cX5_lineUp 105 = .ok (.aload_n 0, 1) := by decide +kernel
theorem dX5_lineUp_106 : decode cX5_lineUp 106 = .ok (.getfield 24, 3) := by decide +kernel
theorem dX5_lineUp_109 : decode cX5_lineUp 109 = .ok (.iconst 0, 1) := by decide +kernel
theorem dX5_lineUp_110 : decode cX5_lineUp 110 = .ok (.lconst 0, 1) := by decide +kernel
theorem dX5_lineUp_111 : decode cX5_lineUp 111 = .ok (.lastore, 1) := by decide +kernel
theorem dX5_lineUp_112 : decode cX5_lineUp 112 = .ok (.iconst 1, 1) := by decide +kernel
theorem dX5_lineUp_113 : decode cX5_lineUp 113 = .ok (.istore_n 3, 1) := by decide +kernel
theorem dX5_lineUp_114 : decode cX5_lineUp 114 = .ok (.iload_n 3, 1) := by decide +kernel
theorem dX5_lineUp_115 : decode cX5_lineUp 115 = .ok (.sipush 256, 3) := by decide +kernel
theorem dX5_lineUp_118 : decode cX5_lineUp 118 = .ok (.if_icmp .ge 18, 3) := by decide +kernel
theorem dX5_lineUp_121 : decode cX5_lineUp 121 = .ok (.aload_n 0, 1) := by decide +kernel
theorem dX5_lineUp_122 : decode cX5_lineUp 122 = .ok (.getfield 24, 3) := by decide +kernel
theorem dX5_lineUp_125 : decode cX5_lineUp 125 = .ok (.iload_n 3, 1) := by decide +kernel
theorem dX5_lineUp_126 : decode cX5_lineUp 126 = .ok (.ldc2_w 117, 3) := by decide +kernel
theorem dX5_lineUp_129 : decode cX5_lineUp 129 = .ok (.lastore, 1) := by decide +kernel
theorem dX5_lineUp_130 : decode cX5_lineUp 130 = .ok (.iinc 3 1, 3) := by decide +kernel
theorem dX5_lineUp_133 : decode cX5_lineUp 133 = .ok (.goto (-19), 3) := by decide +kernel
theorem dX5_lineUp_136 : decode cX5_lineUp 136 = .ok (.return_, 1) := by decide +kernel
theorem dX5_addWeighed_0 : decode cX5_addWeighed 0 = .ok (.iconst 1, 1) := by decide +kernel
theorem dX5_addWeighed_1 : decode cX5_addWeighed 1 = .ok (.aload_n 0, 1) := by decide +kernel
theorem dX5_addWeighed_2 : decode cX5_addWeighed 2 = .ok (.getfield 77, 3) := by decide +kernel
theorem dX5_addWeighed_5 : decode cX5_addWeighed 5 = .ok (.ishl, 1) := by decide +kernel
theorem dX5_addWeighed_6 : decode cX5_addWeighed 6 = .ok (.iconst 1, 1) := by decide +kernel
theorem dX5_addWeighed_7 : decode cX5_addWeighed 7 = .ok (.isub, 1) := by decide +kernel
theorem dX5_addWeighed_8 : decode cX5_addWeighed 8 = .ok (.istore_n 1, 1) := by decide +kernel
theorem dX5_addWeighed_9 : decode cX5_addWeighed 9 = .ok (.iload_n 1, 1) := by decide +kernel
theorem dX5_addWeighed_10 : decode cX5_addWeighed 10 = .ok (.ifCond .lt 20, 3) := by decide +kernel
theorem dX5_addWeighed_13 : decode cX5_addWeighed 13 = .ok (.aload_n 0, 1) := by decide +kernel
theorem dX5_addWeighed_14 : decode cX5_addWeighed 14 = .ok (.getfield 24, 3) := by decide +kernel
theorem dX5_addWeighed_17 : decode cX5_addWeighed 17 = .ok (.iload_n 1, 1) := by decide +kernel
theorem dX5_addWeighed_18 : decode cX5_addWeighed 18 = .ok (.aload_n 0, 1) := by decide +kernel
theorem dX5_addWeighed_19 : decode cX5_addWeighed 19 = .ok (.iload_n 1, 1) := by decide +kernel
theorem dX5_addWeighed_20 : decode cX5_addWeighed 20 = .ok (.invokevirtual 81, 3) := by decide +kernel
theorem dX5_addWeighed_23 : decode cX5_addWeighed 23 = .ok (.lastore, 1) := by decide +kernel
theorem dX5_addWeighed_24 : decode cX5_addWeighed 24 = .ok (.iinc 1 (-1), 3) := by decide +kernel
theorem dX5_addWeighed_27 : decode cX5_addWeighed 27 = .ok (.goto (-18), 3) := by decide +kernel
theorem dX5_addWeighed_30 : decode cX5_addWeighed 30 = .ok (.return_, 1) := by decide +kernel
theorem dX5_leastOf_0 : decode cX5_leastOf 0 = .ok (.ldc2_w 117, 3) := by decide +kernel
theorem dX5_leastOf_3 : decode cX5_leastOf 3 = .ok (.lstore_n 2, 1) := by decide +kernel
theorem dX5_leastOf_4 : decode cX5_leastOf 4 = .ok (.iload_n 1, 1) := by decide +kernel
theorem dX5_leastOf_5 : decode cX5_leastOf 5 = .ok (.istore 4, 2) := by decide +kernel
theorem dX5_leastOf_7 : decode cX5_leastOf 7 = .ok (.iconst 0, 1) := by decide +kernel
theorem dX5_leastOf_8 : decode cX5_leastOf 8 = .ok (.istore 5, 2) := by decide +kernel
theorem dX5_leastOf_10 : decode cX5_leastOf 10 = .ok (.iload 5, 2) := by decide +kernel
theorem dX5_leastOf_12 : decode cX5_leastOf 12 = .ok (.iload_n 1, 1) := by decide +kernel
theorem dX5_leastOf_13 : decode cX5_leastOf 13 = .ok (.if_icmp .gt 61, 3) := by decide +kernel
theorem dX5_leastOf_16 : decode cX5_leastOf 16 = .ok (.aload_n 0, 1) := by decide +kernel
theorem dX5_leastOf_17 : decode cX5_leastOf 17 = .ok (.getfield 21, 3) := by decide +kernel
theorem dX5_leastOf_20 : decode cX5_leastOf 20 = .ok (.iload 4, 2) := by decide +kernel
theorem dX5_leastOf_22 : decode cX5_leastOf 22 = .ok (.laload, 1) := by decide +kernel
theorem dX5_leastOf_23 : decode cX5_leastOf 23 = .ok (.ldc2_w 117, 3) := by decide +kernel
theorem dX5_leastOf_26 : decode cX5_leastOf 26 = .ok (.lcmp, 1) := by decide +kernel
theorem dX5_leastOf_27 : decode cX5_leastOf 27 = .ok (.ifCond .ge 25, 3) := by decide +kernel
theorem dX5_leastOf_30 : decode cX5_leastOf 30 = .ok (.lload_n 2, 1) := by decide +kernel
theorem dX5_leastOf_31 : decode cX5_leastOf 31 = .ok (.aload_n 0, 1) := by decide +kernel
theorem dX5_leastOf_32 : decode cX5_leastOf 32 = .ok (.getfield 21, 3) := by decide +kernel
theorem dX5_leastOf_35 : decode cX5_leastOf 35 = .ok (.iload 4, 2) := by decide +kernel
theorem dX5_leastOf_37 : decode cX5_leastOf 37 = .ok (.laload, 1) := by decide +kernel
theorem dX5_leastOf_38 : decode cX5_leastOf 38 = .ok (.aload_n 0, 1) := by decide +kernel
theorem dX5_leastOf_39 : decode cX5_leastOf 39 = .ok (.getfield 24, 3) := by decide +kernel
theorem dX5_leastOf_42 : decode cX5_leastOf 42 = .ok (.iload_n 1, 1) := by decide +kernel
theorem dX5_leastOf_43 : decode cX5_leastOf 43 = .ok (.iload 4, 2) := by decide +kernel
theorem dX5_leastOf_45 : decode cX5_leastOf 45 = .ok (.ixor, 1) := by decide +kernel
theorem dX5_leastOf_46 : decode cX5_leastOf 46 = .ok (.laload, 1) := by decide +kernel
theorem dX5_leastOf_47 : decode cX5_leastOf 47 = .ok (.ladd, 1) := by decide +kernel
theorem dX5_leastOf_48 : decode cX5_leastOf 48 = .ok (.invokestatic 119, 3) := by decide +kernel
theorem dX5_leastOf_51 : decode cX5_leastOf 51 = .ok (.lstore_n 2, 1) := by decide +kernel
theorem dX5_leastOf_52 : decode cX5_leastOf 52 = .ok (.iload 4, 2) := by decide +kernel
theorem dX5_leastOf_54 : decode cX5_leastOf 54 = .ok (.ifCond .ne 6, 3) := by decide +kernel
theorem dX5_leastOf_57 : decode cX5_leastOf 57 = .ok (.goto 17, 3) := by decide +kernel
theorem dX5_leastOf_60 : decode cX5_leastOf 60 = .ok (.iload 4, 2) := by decide +kernel
theorem dX5_leastOf_62 : decode cX5_leastOf 62 = .ok (.iconst 1, 1) := by decide +kernel
theorem dX5_leastOf_63 : decode cX5_leastOf 63 = .ok (.isub, 1) := by decide +kernel
theorem dX5_leastOf_64 : decode cX5_leastOf 64 = .ok (.iload_n 1, 1) := by decide +kernel
theorem dX5_leastOf_65 : decode cX5_leastOf 65 = .ok (.iand, 1) := by decide +kernel
theorem dX5_leastOf_66 : decode cX5_leastOf 66 = .ok (.istore 4, 2) := by decide +kernel
theorem dX5_leastOf_68 : decode cX5_leastOf 68 = .ok (.iinc 5 1, 3) := by decide +kernel
theorem dX5_leastOf_71 : decode cX5_leastOf 71 = .ok (.goto (-61), 3) := by decide +kernel
theorem dX5_leastOf_74 : decode cX5_leastOf 74 = .ok (.lload_n 2, 1) := by decide +kernel
theorem dX5_leastOf_75 : decode cX5_leastOf 75 = .ok (.lreturn, 1) := by decide +kernel
theorem dX5_weighChains_0 : decode cX5_weighChains 0 = .ok (.aload_n 0, 1) := by decide +kernel
theorem dX5_weighChains_1 : decode cX5_weighChains 1 = .ok (.getfield 48, 3) := by decide +kernel
theorem dX5_weighChains_4 : decode cX5_weighChains 4 = .ok (.iload_n 1, 1) := by decide +kernel
theorem dX5_weighChains_5 : decode cX5_weighChains 5 = .ok (.invokevirtual 93, 3) := by decide +kernel
end
section
theorem dX5_weighChains_8 : decode cX5_weighChains 8 = .ok (.aload_n 0, 1) := by decide +kernel
theorem dX5_weighChains_9 : decode cX5_weighChains 9 = .ok (.iconst 0, 1) := by decide +kernel
theorem dX5_weighChains_10 : decode cX5_weighChains 10 = .ok (.lconst 0, 1) := by decide +kernel
theorem dX5_weighChains_11 : decode cX5_weighChains 11 = .ok (.invokevirtual 125, 3) := by decide +kernel
theorem dX5_weighChains_14 : decode cX5_weighChains 14 = .ok (.iconst 0, 1) := by decide +kernel
theorem dX5_weighChains_15 : decode cX5_weighChains 15 = .ok (.istore_n 2, 1) := by decide +kernel
theorem dX5_weighChains_16 : decode cX5_weighChains 16 = .ok (.iload_n 2, 1) := by decide +kernel
theorem dX5_weighChains_17 : decode cX5_weighChains 17 = .ok (.aload_n 0, 1) := by decide +kernel
theorem dX5_weighChains_18 : decode cX5_weighChains 18 = .ok (.getfield 77, 3) := by decide +kernel
theorem dX5_weighChains_21 : decode cX5_weighChains 21 = .ok (.if_icmp .ge 53, 3) := by decide +kernel
theorem dX5_weighChains_24 : decode cX5_weighChains 24 = .ok (.iconst 1, 1) := by decide +kernel
theorem dX5_weighChains_25 : decode cX5_weighChains 25 = .ok (.iload_n 2, 1) := by decide +kernel
theorem dX5_weighChains_26 : decode cX5_weighChains 26 = .ok (.ishl, 1) := by decide +kernel
theorem dX5_weighChains_27 : decode cX5_weighChains 27 = .ok (.istore_n 3, 1) := by decide +kernel
theorem dX5_weighChains_28 : decode cX5_weighChains 28 = .ok (.aload_n 0, 1) := by decide +kernel
theorem dX5_weighChains_29 : decode cX5_weighChains 29 = .ok (.iload_n 2, 1) := by decide +kernel
theorem dX5_weighChains_30 : decode cX5_weighChains 30 = .ok (.iload_n 1, 1) := by decide +kernel
theorem dX5_weighChains_31 : decode cX5_weighChains 31 = .ok (.invokevirtual 129, 3) := by decide +kernel
theorem dX5_weighChains_34 : decode cX5_weighChains 34 = .ok (.lstore 4, 2) := by decide +kernel
theorem dX5_weighChains_36 : decode cX5_weighChains 36 = .ok (.iconst 0, 1) := by decide +kernel
theorem dX5_weighChains_37 : decode cX5_weighChains 37 = .ok (.istore 6, 2) := by decide +kernel
theorem dX5_weighChains_39 : decode cX5_weighChains 39 = .ok (.iload 6, 2) := by decide +kernel
theorem dX5_weighChains_41 : decode cX5_weighChains 41 = .ok (.iload_n 3, 1) := by decide +kernel
theorem dX5_weighChains_42 : decode cX5_weighChains 42 = .ok (.if_icmp .ge 26, 3) := by decide +kernel
theorem dX5_weighChains_45 : decode cX5_weighChains 45 = .ok (.aload_n 0, 1) := by decide +kernel
theorem dX5_weighChains_46 : decode cX5_weighChains 46 = .ok (.iload 6, 2) := by decide +kernel
theorem dX5_weighChains_48 : decode cX5_weighChains 48 = .ok (.iload_n 3, 1) := by decide +kernel
theorem dX5_weighChains_49 : decode cX5_weighChains 49 = .ok (.iadd, 1) := by decide +kernel
theorem dX5_weighChains_50 : decode cX5_weighChains 50 = .ok (.aload_n 0, 1) := by decide +kernel
theorem dX5_weighChains_51 : decode cX5_weighChains 51 = .ok (.iload 6, 2) := by decide +kernel
theorem dX5_weighChains_53 : decode cX5_weighChains 53 = .ok (.iload_n 2, 1) := by decide +kernel
theorem dX5_weighChains_54 : decode cX5_weighChains 54 = .ok (.lload 4, 2) := by decide +kernel
theorem dX5_weighChains_56 : decode cX5_weighChains 56 = .ok (.invokevirtual 133, 3) := by decide +kernel
theorem dX5_weighChains_59 : decode cX5_weighChains 59 = .ok (.invokevirtual 125, 3) := by decide +kernel
theorem dX5_weighChains_62 : decode cX5_weighChains 62 = .ok (.iinc 6 1, 3) := by decide +kernel
theorem dX5_weighChains_65 : decode cX5_weighChains 65 = .ok (.goto (-26), 3) := by decide +kernel
theorem dX5_weighChains_68 : decode cX5_weighChains 68 = .ok (.iinc 2 1, 3) := by decide +kernel
theorem dX5_weighChains_71 : decode cX5_weighChains 71 = .ok (.goto (-55), 3) := by decide +kernel
theorem dX5_weighChains_74 : decode cX5_weighChains 74 = .ok (.return_, 1) := by decide +kernel
theorem dX5_costBehind_0 : decode cX5_costBehind 0 = .ok (.aload_n 0, 1) := by decide +kernel
theorem dX5_costBehind_1 : decode cX5_costBehind 1 = .ok (.getfield 21, 3) := by decide +kernel
theorem dX5_costBehind_4 : decode cX5_costBehind 4 = .ok (.iload_n 1, 1) := by decide +kernel
theorem dX5_costBehind_5 : decode cX5_costBehind 5 = .ok (.laload, 1) := by decide +kernel
theorem dX5_costBehind_6 : decode cX5_costBehind 6 = .ok (.ldc2_w 117, 3) := by decide +kernel
theorem dX5_costBehind_9 : decode cX5_costBehind 9 = .ok (.lcmp, 1) := by decide +kernel
theorem dX5_costBehind_10 : decode cX5_costBehind 10 = .ok (.ifCond .lt 7, 3) := by decide +kernel
theorem dX5_costBehind_13 : decode cX5_costBehind 13 = .ok (.ldc2_w 117, 3) := by decide +kernel
theorem dX5_costBehind_16 : decode cX5_costBehind 16 = .ok (.lreturn, 1) := by decide +kernel
theorem dX5_costBehind_17 : decode cX5_costBehind 17 = .ok (.aload_n 0, 1) := by decide +kernel
theorem dX5_costBehind_18 : decode cX5_costBehind 18 = .ok (.getfield 48, 3) := by decide +kernel
theorem dX5_costBehind_21 : decode cX5_costBehind 21 = .ok (.aload_n 0, 1) := by decide +kernel
theorem dX5_costBehind_22 : decode cX5_costBehind 22 = .ok (.getfield 27, 3) := by decide +kernel
theorem dX5_costBehind_25 : decode cX5_costBehind 25 = .ok (.iload_n 1, 1) := by decide +kernel
theorem dX5_costBehind_26 : decode cX5_costBehind 26 = .ok (.iaload, 1) := by decide +kernel
theorem dX5_costBehind_27 : decode cX5_costBehind 27 = .ok (.aload_n 0, 1) := by decide +kernel
theorem dX5_costBehind_28 : decode cX5_costBehind 28 = .ok (.getfield 30, 3) := by decide +kernel
theorem dX5_costBehind_31 : decode cX5_costBehind 31 = .ok (.iload_n 1, 1) := by decide +kernel
theorem dX5_costBehind_32 : decode cX5_costBehind 32 = .ok (.iaload, 1) := by decide +kernel
theorem dX5_costBehind_33 : decode cX5_costBehind 33 = .ok (.aload_n 0, 1) := by decide +kernel
theorem dX5_costBehind_34 : decode cX5_costBehind 34 = .ok (.getfield 33, 3) := by decide +kernel
theorem dX5_costBehind_37 : decode cX5_costBehind 37 = .ok (.iload_n 1, 1) := by decide +kernel
theorem dX5_costBehind_38 : decode cX5_costBehind 38 = .ok (.iaload, 1) := by decide +kernel
theorem dX5_costBehind_39 : decode cX5_costBehind 39 = .ok (.invokevirtual 137, 3) := by decide +kernel
theorem dX5_costBehind_42 : decode cX5_costBehind 42 = .ok (.aload_n 0, 1) := by decide +kernel
theorem dX5_costBehind_43 : decode cX5_costBehind 43 = .ok (.getfield 48, 3) := by decide +kernel
theorem dX5_costBehind_46 : decode cX5_costBehind 46 = .ok (.aload_n 0, 1) := by decide +kernel
theorem dX5_costBehind_47 : decode cX5_costBehind 47 = .ok (.getfield 13, 3) := by decide +kernel
theorem dX5_costBehind_50 : decode cX5_costBehind 50 = .ok (.iload_n 2, 1) := by decide +kernel
theorem dX5_costBehind_51 : decode cX5_costBehind 51 = .ok (.iaload, 1) := by decide +kernel
theorem dX5_costBehind_52 : decode cX5_costBehind 52 = .ok (.invokevirtual 108, 3) := by decide +kernel
theorem dX5_costBehind_55 : decode cX5_costBehind 55 = .ok (.istore 5, 2) := by decide +kernel
theorem dX5_costBehind_57 : decode cX5_costBehind 57 = .ok (.iload 5, 2) := by decide +kernel
theorem dX5_costBehind_59 : decode cX5_costBehind 59 = .ok (.iconst (-1), 1) := by decide +kernel
theorem dX5_costBehind_60 : decode cX5_costBehind 60 = .ok (.if_icmp .ne 9, 3) := by decide +kernel
theorem dX5_costBehind_63 : decode cX5_costBehind 63 = .ok (.ldc2_w 117, 3) := by decide +kernel
theorem dX5_costBehind_66 : decode cX5_costBehind 66 = .ok (.goto 19, 3) := by decide +kernel
theorem dX5_costBehind_69 : decode cX5_costBehind 69 = .ok (.aload_n 0, 1) := by decide +kernel
theorem dX5_costBehind_70 : decode cX5_costBehind 70 = .ok (.getfield 21, 3) := by decide +kernel
theorem dX5_costBehind_73 : decode cX5_costBehind 73 = .ok (.iload_n 1, 1) := by decide +kernel
theorem dX5_costBehind_74 : decode cX5_costBehind 74 = .ok (.laload, 1) := by decide +kernel
theorem dX5_costBehind_75 : decode cX5_costBehind 75 = .ok (.lload_n 3, 1) := by decide +kernel
theorem dX5_costBehind_76 : decode cX5_costBehind 76 = .ok (.ladd, 1) := by decide +kernel
theorem dX5_costBehind_77 : decode cX5_costBehind 77 = .ok (.iload 5, 2) := by decide +kernel
theorem dX5_costBehind_79 : decode cX5_costBehind 79 = .ok (.i2l, 1) := by decide +kernel
theorem dX5_costBehind_80 : decode cX5_costBehind 80 = .ok (.ldc2_w 85, 3) := by decide +kernel
theorem dX5_costBehind_83 : decode cX5_costBehind 83 = .ok (.lmul, 1) := by decide +kernel
theorem dX5_costBehind_84 : decode cX5_costBehind 84 = .ok (.ladd, 1) := by decide +kernel
theorem dX5_costBehind_85 : decode cX5_costBehind 85 = .ok (.lreturn, 1) := by decide +kernel
theorem dX5_keep_0 : decode cX5_keep 0 = .ok (.aload_n 0, 1) := by decide +kernel
theorem dX5_keep_1 : decode cX5_keep 1 = .ok (.getfield 21, 3) := by decide +kernel
theorem dX5_keep_4 : decode cX5_keep 4 = .ok (.iload_n 1, 1) := by decide +kernel
theorem dX5_keep_5 : decode cX5_keep 5 = .ok (.lload_n 2, 1) := by decide +kernel
theorem dX5_keep_6 : decode cX5_keep 6 = .ok (.lastore, 1) := by decide +kernel
theorem dX5_keep_7 : decode cX5_keep 7 = .ok (.aload_n 0, 1) := by decide +kernel
theorem dX5_keep_8 : decode cX5_keep 8 = .ok (.getfield 27, 3) := by decide +kernel
theorem dX5_keep_11 : decode cX5_keep 11 = .ok (.iload_n 1, 1) := by decide +kernel
theorem dX5_keep_12 : decode cX5_keep 12 = .ok (.aload_n 0, 1) := by decide +kernel
theorem dX5_keep_13 : decode cX5_keep 13 = .ok (.getfield 48, 3) := by decide +kernel
theorem dX5_keep_16 : decode cX5_keep 16 = .ok (.invokevirtual 141, 3) := by decide +kernel
theorem dX5_keep_19 : decode cX5_keep 19 = .ok (.iastore, 1) := by decide +kernel
theorem dX5_keep_20 : decode cX5_keep 20 = .ok (.aload_n 0, 1) := by decide +kernel
theorem dX5_keep_21 : decode cX5_keep 21 = .ok (.getfield 30, 3) := by decide +kernel
theorem dX5_keep_24 : decode cX5_keep 24 = .ok (.iload_n 1, 1) := by decide +kernel
theorem dX5_keep_25 : decode cX5_keep 25 = .ok (.aload_n 0, 1) := by decide +kernel
theorem dX5_keep_26 : decode cX5_keep 26 = .ok (.getfield 48, 3) := by decide +kernel
theorem dX5_keep_29 : decode cX5_keep 29 = .ok (.invokevirtual 143, 3) := by decide +kernel
theorem dX5_keep_32 : decode cX5_keep 32 = .ok (.iastore, 1) := by decide +kernel
theorem dX5_keep_33 : decode cX5_keep 33 = .ok (.aload_n 0, 1) := by decide +kernel
theorem dX5_keep_34 : decode cX5_keep 34 = .ok (.getfield 33, 3) := by decide +kernel
theorem dX5_keep_37 : decode cX5_keep 37 = .ok (.iload_n 1, 1) := by decide +kernel
theorem dX5_keep_38 : decode cX5_keep 38 = .ok (.aload_n 0, 1) := by decide +kernel
theorem dX5_keep_39 : decode cX5_keep 39 = .ok (.getfield 48, 3) := by decide +kernel
theorem dX5_keep_42 : decode cX5_keep 42 = .ok (.invokevirtual 145, 3) := by decide +kernel
theorem dX5_keep_45 : decode cX5_keep 45 = .ok (.iastore, 1) := by decide +kernel
theorem dX5_keep_46 : decode cX5_keep 46 = .ok (.return_, 1) := by decide +kernel
theorem dX5_weighUnflown_0 : decode cX5_weighUnflown 0 = .ok (.aload_n 0, 1) := by decide +kernel
theorem dX5_weighUnflown_1 : decode cX5_weighUnflown 1 = .ok (.getfield 21, 3) := by decide +kernel
theorem dX5_weighUnflown_4 : decode cX5_weighUnflown 4 = .ok (.iconst 0, 1) := by decide +kernel
theorem dX5_weighUnflown_5 : decode cX5_weighUnflown 5 = .ok (.lconst 0, 1) := by decide +kernel
theorem dX5_weighUnflown_6 : decode cX5_weighUnflown 6 = .ok (.lastore, 1) := by decide +kernel
theorem dX5_weighUnflown_7 : decode cX5_weighUnflown 7 = .ok (.iconst 0, 1) := by decide +kernel
theorem dX5_weighUnflown_8 : decode cX5_weighUnflown 8 = .ok (.istore_n 1, 1) := by decide +kernel
theorem dX5_weighUnflown_9 : decode cX5_weighUnflown 9 = .ok (.iload_n 1, 1) := by decide +kernel
theorem dX5_weighUnflown_10 : decode cX5_weighUnflown 10 = .ok (.aload_n 0, 1) := by decide +kernel
theorem dX5_weighUnflown_11 : decode cX5_weighUnflown 11 = .ok (.getfield 77, 3) := by decide +kernel
theorem dX5_weighUnflown_14 : decode cX5_weighUnflown 14 = .ok (.if_icmp .ge 58, 3) := by decide +kernel
theorem dX5_weighUnflown_17 : decode cX5_weighUnflown 17 = .ok (.iconst 1, 1) := by decide +kernel
theorem dX5_weighUnflown_18 : decode cX5_weighUnflown 18 = .ok (.iload_n 1, 1) := by decide +kernel
theorem dX5_weighUnflown_19 : decode cX5_weighUnflown 19 = .ok (.ishl, 1) := by decide +kernel
theorem dX5_weighUnflown_20 : decode cX5_weighUnflown 20 = .ok (.istore_n 2, 1) := by decide +kernel
theorem dX5_weighUnflown_21 : decode cX5_weighUnflown 21 = .ok (.ldc2_w 91, 3) := by decide +kernel
theorem dX5_weighUnflown_24 : decode cX5_weighUnflown 24 = .ok (.aload_n 0, 1) := by decide +kernel
theorem dX5_weighUnflown_25 : decode cX5_weighUnflown 25 = .ok (.iload_n 1, 1) := by decide +kernel
theorem dX5_weighUnflown_26 : decode cX5_weighUnflown 26 = .ok (.bipush 9, 2) := by decide +kernel
theorem dX5_weighUnflown_28 : decode cX5_weighUnflown 28 = .ok (.invokevirtual 129, 3) := by decide +kernel
theorem dX5_weighUnflown_31 : decode cX5_weighUnflown 31 = .ok (.ladd, 1) := by decide +kernel
theorem dX5_weighUnflown_32 : decode cX5_weighUnflown 32 = .ok (.lstore_n 3, 1) := by decide +kernel
theorem dX5_weighUnflown_33 : decode cX5_weighUnflown 33 = .ok (.iconst 0, 1) := by decide +kernel
theorem dX5_weighUnflown_34 : decode cX5_weighUnflown 34 = .ok (.istore 5, 2) := by decide +kernel
theorem dX5_weighUnflown_36 : decode cX5_weighUnflown 36 = .ok (.iload 5, 2) := by decide +kernel
theorem dX5_weighUnflown_38 : decode cX5_weighUnflown 38 = .ok (.iload_n 2, 1) := by decide +kernel
theorem dX5_weighUnflown_39 : decode cX5_weighUnflown 39 = .ok (.if_icmp .ge 27, 3) := by decide +kernel
theorem dX5_weighUnflown_42 : decode cX5_weighUnflown 42 = .ok (.aload_n 0, 1) := by decide +kernel
theorem dX5_weighUnflown_43 : decode cX5_weighUnflown 43 = .ok (.getfield 21, 3) := by decide +kernel
theorem dX5_weighUnflown_46 : decode cX5_weighUnflown 46 = .ok (.iload 5, 2) := by decide +kernel
theorem dX5_weighUnflown_48 : decode cX5_weighUnflown 48 = .ok (.iload_n 2, 1) := by decide +kernel
theorem dX5_weighUnflown_49 : decode cX5_weighUnflown 49 = .ok (.iadd, 1) := by decide +kernel
theorem dX5_weighUnflown_50 : decode cX5_weighUnflown 50 = .ok (.aload_n 0, 1) := by decide +kernel
theorem dX5_weighUnflown_51 : decode cX5_weighUnflown 51 = .ok (.getfield 21, 3) := by decide +kernel
theorem dX5_weighUnflown_54 : decode cX5_weighUnflown 54 = .ok (.iload 5, 2) := by decide +kernel
theorem dX5_weighUnflown_56 : decode cX5_weighUnflown 56 = .ok (.laload, 1) := by decide +kernel
theorem dX5_weighUnflown_57 : decode cX5_weighUnflown 57 = .ok (.lload_n 3, 1) := by decide +kernel
theorem dX5_weighUnflown_58 : decode cX5_weighUnflown 58 = .ok (.ladd, 1) := by decide +kernel
theorem dX5_weighUnflown_59 : decode cX5_weighUnflown 59 = .ok (.lastore, 1) := by decide +kernel
theorem dX5_weighUnflown_60 : decode cX5_weighUnflown 60 = .ok (.iinc 5 1, 3) := by decide +kernel
theorem dX5_weighUnflown_63 : decode cX5_weighUnflown 63 = .ok (.goto (-27), 3) := by decide +kernel
theorem dX5_weighUnflown_66 : decode cX5_weighUnflown 66 = .ok (.iinc 1 1, 3) := by decide +kernel
theorem dX5_weighUnflown_69 : decode cX5_weighUnflown 69 = .ok (.goto (-60), 3) := by decide +kernel
theorem dX5_weighUnflown_72 : decode cX5_weighUnflown 72 = .ok (.return_, 1) := by decide +kernel
theorem dX5_ownCost_0 : decode cX5_ownCost 0 = .ok (.aload_n 0, 1) := by decide +kernel
theorem dX5_ownCost_1 : decode cX5_ownCost 1 = .ok (.getfield 44, 3) := by decide +kernel
theorem dX5_ownCost_4 : decode cX5_ownCost 4 = .ok (.aload_n 0, 1) := by decide +kernel
theorem dX5_ownCost_5 : decode cX5_ownCost 5 = .ok (.getfield 13, 3) := by decide +kernel
theorem dX5_ownCost_8 : decode cX5_ownCost 8 = .ok (.iload_n 1, 1) := by decide +kernel
theorem dX5_ownCost_9 : decode cX5_ownCost 9 = .ok (.iaload, 1) := by decide +kernel
theorem dX5_ownCost_10 : decode cX5_ownCost 10 = .ok (.invokevirtual 103, 3) := by decide +kernel
theorem dX5_ownCost_13 : decode cX5_ownCost 13 = .ok (.istore_n 3, 1) := by decide +kernel
theorem dX5_ownCost_14 : decode cX5_ownCost 14 = .ok (.iload_n 3, 1) := by decide +kernel
theorem dX5_ownCost_15 : decode cX5_ownCost 15 = .ok (.iconst (-1), 1) := by decide +kernel
theorem dX5_ownCost_16 : decode cX5_ownCost 16 = .ok (.if_icmp .eq 15, 3) := by decide +kernel
theorem dX5_ownCost_19 : decode cX5_ownCost 19 = .ok (.iload_n 3, 1) := by decide +kernel
theorem dX5_ownCost_20 : decode cX5_ownCost 20 = .ok (.iload_n 2, 1) := by decide +kernel
theorem dX5_ownCost_21 : decode cX5_ownCost 21 = .ok (.if_icmp .eq 10, 3) := by decide +kernel
theorem dX5_ownCost_24 : decode cX5_ownCost 24 = .ok (.aload_n 0, 1) := by decide +kernel
theorem dX5_ownCost_25 : decode cX5_ownCost 25 = .ok (.getfield 54, 3) := by decide +kernel
theorem dX5_ownCost_28 : decode cX5_ownCost 28 = .ok (.goto 4, 3) := by decide +kernel
theorem dX5_ownCost_31 : decode cX5_ownCost 31 = .ok (.lconst 0, 1) := by decide +kernel
theorem dX5_ownCost_32 : decode cX5_ownCost 32 = .ok (.lstore 4, 2) := by decide +kernel
theorem dX5_ownCost_34 : decode cX5_ownCost 34 = .ok (.lload 4, 2) := by decide +kernel
theorem dX5_ownCost_36 : decode cX5_ownCost 36 = .ok (.iload_n 2, 1) := by decide +kernel
theorem dX5_ownCost_37 : decode cX5_ownCost 37 = .ok (.i2l, 1) := by decide +kernel
theorem dX5_ownCost_38 : decode cX5_ownCost 38 = .ok (.aload_n 0, 1) := by decide +kernel
theorem dX5_ownCost_39 : decode cX5_ownCost 39 = .ok (.getfield 17, 3) := by decide +kernel
theorem dX5_ownCost_42 : decode cX5_ownCost 42 = .ok (.iload_n 1, 1) := by decide +kernel
theorem dX5_ownCost_43 : decode cX5_ownCost 43 = .ok (.laload, 1) := by decide +kernel
theorem dX5_ownCost_44 : decode cX5_ownCost 44 = .ok (.lmul, 1) := by decide +kernel
theorem dX5_ownCost_45 : decode cX5_ownCost 45 = .ok (.ladd, 1) := by decide +kernel
theorem dX5_ownCost_46 : decode cX5_ownCost 46 = .ok (.lreturn, 1) := by decide +kernel
theorem dX5_enter_0 : decode cX5_enter 0 = .ok (.lload_n 1, 1) := by decide +kernel
theorem dX5_enter_1 : decode cX5_enter 1 = .ok (.lstore_n 3, 1) := by decide +kernel
theorem dX5_enter_2 : decode cX5_enter 2 = .ok (.aload_n 0, 1) := by decide +kernel
theorem dX5_enter_3 : decode cX5_enter 3 = .ok (.getfield 77, 3) := by decide +kernel
theorem dX5_enter_6 : decode cX5_enter 6 = .ok (.iconst 1, 1) := by decide +kernel
theorem dX5_enter_7 : decode cX5_enter 7 = .ok (.isub, 1) := by decide +kernel
theorem dX5_enter_8 : decode cX5_enter 8 = .ok (.istore 5, 2) := by decide +kernel
theorem dX5_enter_10 : decode cX5_enter 10 = .ok (.iload 5, 2) := by decide +kernel
theorem dX5_enter_12 : decode cX5_enter 12 = .ok (.ifCond .lt 50, 3) := by decide +kernel
theorem dX5_enter_15 : decode cX5_enter 15 = .ok (.lload_n 3, 1) := by decide +kernel
theorem dX5_enter_16 : decode cX5_enter 16 = .ok (.ldc2_w 115, 3) := by decide +kernel
theorem dX5_enter_19 : decode cX5_enter 19 = .ok (.lrem, 1) := by decide +kernel
theorem dX5_enter_20 : decode cX5_enter 20 = .ok (.l2i, 1) := by decide +kernel
theorem dX5_enter_21 : decode cX5_enter 21 = .ok (.istore 6, 2) := by decide +kernel
theorem dX5_enter_23 : decode cX5_enter 23 = .ok (.lload_n 3, 1) := by decide +kernel
theorem dX5_enter_24 : decode cX5_enter 24 = .ok (.ldc2_w 115, 3) := by decide +kernel
theorem dX5_enter_27 : decode cX5_enter 27 = .ok (.ldiv, 1) := by decide +kernel
theorem dX5_enter_28 : decode cX5_enter 28 = .ok (.lstore_n 3, 1) := by decide +kernel
theorem dX5_enter_29 : decode cX5_enter 29 = .ok (.aload_n 0, 1) := by decide +kernel
theorem dX5_enter_30 : decode cX5_enter 30 = .ok (.getfield 44, 3) := by decide +kernel
theorem dX5_enter_33 : decode cX5_enter 33 = .ok (.aload_n 0, 1) := by decide +kernel
theorem dX5_enter_34 : decode cX5_enter 34 = .ok (.getfield 13, 3) := by decide +kernel
theorem dX5_enter_37 : decode cX5_enter 37 = .ok (.iload 5, 2) := by decide +kernel
theorem dX5_enter_39 : decode cX5_enter 39 = .ok (.iaload, 1) := by decide +kernel
theorem dX5_enter_40 : decode cX5_enter 40 = .ok (.iload 6, 2) := by decide +kernel
theorem dX5_enter_42 : decode cX5_enter 42 = .ok (.bipush 9, 2) := by decide +kernel
theorem dX5_enter_44 : decode cX5_enter 44 = .ok (.if_icmp .ne 7, 3) := by decide +kernel
theorem dX5_enter_47 : decode cX5_enter 47 = .ok (.iconst (-1), 1) := by decide +kernel
theorem dX5_enter_48 : decode cX5_enter 48 = .ok (.goto 5, 3) := by decide +kernel
theorem dX5_enter_51 : decode cX5_enter 51 = .ok (.iload 6, 2) := by decide +kernel
theorem dX5_enter_53 : decode cX5_enter 53 = .ok (.invokevirtual 147, 3) := by decide +kernel
theorem dX5_enter_56 : decode cX5_enter 56 = .ok (.iinc 5 (-1), 3) := by decide +kernel
theorem dX5_enter_59 : decode cX5_enter 59 = .ok (.goto (-49), 3) := by decide +kernel
theorem dX5_enter_62 : decode cX5_enter 62 = .ok (.return_, 1) := by decide +kernel
theorem dX6_init_0 : decode cX6_init 0 = .ok (.aload_n 0, 1) := by decide +kernel
theorem dX6_init_1 : decode cX6_init 1 = .ok (.invokespecial 3, 3) := by decide +kernel
theorem dX6_init_4 : decode cX6_init 4 = .ok (.aload_n 0, 1) := by decide +kernel
theorem dX6_init_5 : decode cX6_init 5 = .ok (.bipush 20, 2) := by decide +kernel
theorem dX6_init_7 : decode cX6_init 7 = .ok (.newarray .int, 2) := by decide +kernel
theorem dX6_init_9 : decode cX6_init 9 = .ok (.putfield 11, 3) := by decide +kernel
theorem dX6_init_12 : decode cX6_init 12 = .ok (.aload_n 0, 1) := by decide +kernel
theorem dX6_init_13 : decode cX6_init 13 = .ok (.aload_n 1, 1) := by decide +kernel
theorem dX6_init_14 : decode cX6_init 14 = .ok (.putfield 17, 3) := by decide +kernel
theorem dX6_init_17 : decode cX6_init 17 = .ok (.aload_n 0, 1) := by decide +kernel
theorem dX6_init_18 : decode cX6_init 18 = .ok (.aload_n 2, 1) := by decide +kernel
theorem dX6_init_19 : decode cX6_init 19 = .ok (.putfield 21, 3) := by decide +kernel
theorem dX6_init_22 : decode cX6_init 22 = .ok (.aload_n 0, 1) := by decide +kernel
theorem dX6_init_23 : decode cX6_init 23 = .ok (.aload_n 3, 1) := by decide +kernel
theorem dX6_init_24 : decode cX6_init 24 = .ok (.putfield 25, 3) := by decide +kernel
theorem dX6_init_27 : decode cX6_init 27 = .ok (.iconst 0, 1) := by decide +kernel
theorem dX6_init_28 : decode cX6_init 28 = .ok (.istore 4, 2) := by decide +kernel
theorem dX6_init_30 : decode cX6_init 30 = .ok (.iload 4, 2) := by decide +kernel
theorem dX6_init_32 : decode cX6_init 32 = .ok (.bipush 20, 2) := by decide +kernel
theorem dX6_init_34 : decode cX6_init 34 = .ok (.if_icmp .ge 17, 3) := by decide +kernel
theorem dX6_init_37 : decode cX6_init 37 = .ok (.aload_n 0, 1) := by decide +kernel
theorem dX6_init_38 : decode cX6_init 38 = .ok (.getfield 11, 3) := by decide +kernel
theorem dX6_init_41 : decode cX6_init 41 = .ok (.iload 4, 2) := by decide +kernel
theorem dX6_init_43 : decode cX6_init 43 = .ok (.iconst (-1), 1) := by decide +kernel
theorem dX6_init_44 : decode cX6_init 44 = .ok (.iastore, 1) := by decide +kernel
theorem dX6_init_45 : decode cX6_init 45 = .ok (.iinc 4 1, 3) := by decide +kernel
theorem dX6_init_48 : decode cX6_init 48 = .ok (.goto (-18), 3) := by decide +kernel
theorem dX6_init_51 : decode cX6_init 51 = .ok (.return_, 1) := by decide +kernel
theorem dX6_assign_0 : decode cX6_assign 0 = .ok (.aload_n 0, 1) := by decide +kernel
theorem dX6_assign_1 : decode cX6_assign 1 = .ok (.getfield 21, 3) := by decide +kernel
theorem dX6_assign_4 : decode cX6_assign 4 = .ok (.iload_n 1, 1) := by decide +kernel
theorem dX6_assign_5 : decode cX6_assign 5 = .ok (.invokevirtual 29, 3) := by decide +kernel
theorem dX6_assign_8 : decode cX6_assign 8 = .ok (.ifCond .eq 10, 3) := by decide +kernel
theorem dX6_assign_11 : decode cX6_assign 11 = .ok (.aload_n 0, 1) := by decide +kernel
theorem dX6_assign_12 : decode cX6_assign 12 = .ok (.getfield 11, 3) := by decide +kernel
theorem dX6_assign_15 : decode cX6_assign 15 = .ok (.iload_n 1, 1) := by decide +kernel
theorem dX6_assign_16 : decode cX6_assign 16 = .ok (.iload_n 2, 1) := by decide +kernel
theorem dX6_assign_17 : decode cX6_assign 17 = .ok (.iastore, 1) := by decide +kernel
theorem dX6_assign_18 : decode cX6_assign 18 = .ok (.return_, 1) := by decide +kernel
theorem dX6_planeOf_0 : decode cX6_planeOf 0 = .ok (.aload_n 0, 1) := by decide +kernel
theorem dX6_planeOf_1 : decode cX6_planeOf 1 = .ok (.getfield 21, 3) := by decide +kernel
theorem dX6_planeOf_4 : decode cX6_planeOf 4 = .ok (.iload_n 1, 1) := by decide +kernel
theorem dX6_planeOf_5 : decode cX6_planeOf 5 = .ok (.invokevirtual 29, 3) := by decide +kernel
theorem dX6_planeOf_8 : decode cX6_planeOf 8 = .ok (.ifCond .eq 12, 3) := by decide +kernel
theorem dX6_planeOf_11 : decode cX6_planeOf 11 = .ok (.aload_n 0, 1) := by decide +kernel
theorem dX6_planeOf_12 : decode cX6_planeOf 12 = .ok (.getfield 11, 3) := by decide +kernel
theorem dX6_planeOf_15 : decode cX6_planeOf 15 = .ok (.iload_n 1, 1) := by decide +kernel
theorem dX6_planeOf_16 : decode cX6_planeOf 16 = .ok (.iaload, 1) := by decide +kernel
theorem dX6_planeOf_17 : decode cX6_planeOf 17 = .ok (.goto 4, 3) := by decide +kernel
theorem dX6_planeOf_20 : decode cX6_planeOf 20 = .ok (.iconst (-1), 1) := by decide +kernel
theorem dX6_planeOf_21 : decode cX6_planeOf 21 = .ok (.ireturn, 1) := by decide +kernel
theorem dX6_flown_0 : decode cX6_flown 0 = .ok (.iconst 0, 1) := by decide +kernel
theorem dX6_flown_1 : decode cX6_flown 1 = .ok (.istore_n 1, 1) := by decide +kernel
theorem dX6_flown_2 : decode cX6_flown 2 = .ok (.iconst 0, 1) := by decide +kernel
theorem dX6_flown_3 : decode cX6_flown 3 = .ok (.istore_n 2, 1) := by decide +kernel
theorem dX6_flown_4 : decode cX6_flown 4 = .ok (.iload_n 2, 1) := by decide +kernel
theorem dX6_flown_5 : decode cX6_flown 5 = .ok (.aload_n 0, 1) := by decide +kernel
theorem dX6_flown_6 : decode cX6_flown 6 = .ok (.getfield 21, 3) := by decide +kernel
theorem dX6_flown_9 : decode cX6_flown 9 = .ok (.invokevirtual 33, 3) := by decide +kernel
theorem dX6_flown_12 : decode cX6_flown 12 = .ok (.if_icmp .ge 26, 3) := by decide +kernel
theorem dX6_flown_15 : decode cX6_flown 15 = .ok (.iload_n 1, 1) := by decide +kernel
theorem dX6_flown_16 : decode cX6_flown 16 = .ok (.aload_n 0, 1) := by decide +kernel
theorem dX6_flown_17 : decode cX6_flown 17 = .ok (.iload_n 2, 1) := by decide +kernel
theorem dX6_flown_18 : decode cX6_flown 18 = .ok (.invokevirtual 37, 3) := by decide +kernel
theorem dX6_flown_21 : decode cX6_flown 21 = .ok (.iconst (-1), 1) := by decide +kernel
theorem dX6_flown_22 : decode cX6_flown 22 = .ok (.if_icmp .ne 7, 3) := by decide +kernel
theorem dX6_flown_25 : decode cX6_flown 25 = .ok (.iconst 0, 1) := by decide +kernel
theorem dX6_flown_26 : decode cX6_flown 26 = .ok (.goto 4, 3) := by decide +kernel
theorem dX6_flown_29 : decode cX6_flown 29 = .ok (.iconst 1, 1) := by decide +kernel
theorem dX6_flown_30 : decode cX6_flown 30 = .ok (.iadd, 1) := by decide +kernel
theorem dX6_flown_31 : decode cX6_flown 31 = .ok (.istore_n 1, 1) := by decide +kernel
theorem dX6_flown_32 : decode cX6_flown 32 = .ok (.iinc 2 1, 3) := by decide +kernel
theorem dX6_flown_35 : decode cX6_flown 35 = .ok (.goto (-31), 3) := by decide +kernel
theorem dX6_flown_38 : decode cX6_flown 38 = .ok (.iload_n 1, 1) := by decide +kernel
theorem dX6_flown_39 : decode cX6_flown 39 = .ok (.ireturn, 1) := by decide +kernel
theorem dX6_emptyMinutes_0 : decode cX6_emptyMinutes 0 = .ok (.iconst 0, 1) := by decide +kernel
theorem dX6_emptyMinutes_1 : decode cX6_emptyMinutes 1 = .ok (.istore_n 1, 1) := by decide +kernel
theorem dX6_emptyMinutes_2 : decode cX6_emptyMinutes 2 = .ok (.iconst 0, 1) := by decide +kernel
theorem dX6_emptyMinutes_3 : decode cX6_emptyMinutes 3 = .ok (.istore_n 2, 1) := by decide +kernel
theorem dX6_emptyMinutes_4 : decode cX6_emptyMinutes 4 = .ok (.iload_n 2, 1) := by decide +kernel
theorem dX6_emptyMinutes_5 : decode cX6_emptyMinutes 5 = .ok (.aload_n 0, 1) := by decide +kernel
theorem dX6_emptyMinutes_6 : decode cX6_emptyMinutes 6 = .ok (.getfield 21, 3) := by decide +kernel
theorem dX6_emptyMinutes_9 : decode cX6_emptyMinutes 9 = .ok (.invokevirtual 33, 3) := by decide +kernel
theorem dX6_emptyMinutes_12 : decode cX6_emptyMinutes 12 = .ok (.if_icmp .ge 17, 3) := by decide +kernel
theorem dX6_emptyMinutes_15 : decode cX6_emptyMinutes 15 = .ok (.iload_n 1, 1) := by decide +kernel
theorem dX6_emptyMinutes_16 : decode cX6_emptyMinutes 16 = .ok (.aload_n 0, 1) := by decide +kernel
theorem dX6_emptyMinutes_17 : decode cX6_emptyMinutes 17 = .ok (.iload_n 2, 1) := by decide +kernel
theorem dX6_emptyMinutes_18 : decode cX6_emptyMinutes 18 = .ok (.invokevirtual 41, 3) := by decide +kernel
theorem dX6_emptyMinutes_21 : decode cX6_emptyMinutes 21 = .ok (.iadd, 1) := by decide +kernel
theorem dX6_emptyMinutes_22 : decode cX6_emptyMinutes 22 = .ok (.istore_n 1, 1) := by decide +kernel
theorem dX6_emptyMinutes_23 : decode cX6_emptyMinutes 23 = .ok (.iinc 2 1, 3) := by decide +kernel
theorem dX6_emptyMinutes_26 : decode cX6_emptyMinutes 26 = .ok (.goto (-22), 3) := by decide +kernel
theorem dX6_emptyMinutes_29 : decode cX6_emptyMinutes 29 = .ok (.iload_n 1, 1) := by decide +kernel
theorem dX6_emptyMinutes_30 : decode cX6_emptyMinutes 30 = .ok (.ireturn, 1) := by decide +kernel
theorem dX6_minutesOf_0 : decode cX6_minutesOf 0 = .ok (.aload_n 0, 1) := by decide +kernel
theorem dX6_minutesOf_1 : decode cX6_minutesOf 1 = .ok (.getfield 25, 3) := by decide +kernel
theorem dX6_minutesOf_4 : decode cX6_minutesOf 4 = .ok (.aload_n 0, 1) := by decide +kernel
theorem dX6_minutesOf_5 : decode cX6_minutesOf 5 = .ok (.getfield 21, 3) := by decide +kernel
theorem dX6_minutesOf_8 : decode cX6_minutesOf 8 = .ok (.iload_n 1, 1) := by decide +kernel
theorem dX6_minutesOf_9 : decode cX6_minutesOf 9 = .ok (.invokevirtual 44, 3) := by decide +kernel
theorem dX6_minutesOf_12 : decode cX6_minutesOf 12 = .ok (.aload_n 0, 1) := by decide +kernel
theorem dX6_minutesOf_13 : decode cX6_minutesOf 13 = .ok (.getfield 21, 3) := by decide +kernel
theorem dX6_minutesOf_16 : decode cX6_minutesOf 16 = .ok (.iload_n 1, 1) := by decide +kernel
theorem dX6_minutesOf_17 : decode cX6_minutesOf 17 = .ok (.invokevirtual 47, 3) := by decide +kernel
theorem dX6_minutesOf_20 : decode cX6_minutesOf 20 = .ok (.invokevirtual 50, 3) := by decide +kernel
theorem dX6_minutesOf_23 : decode cX6_minutesOf 23 = .ok (.ireturn, 1) := by decide +kernel
theorem dX6_placeAhead_0 : decode cX6_placeAhead 0 = .ok (.aload_n 0, 1) := by decide +kernel
theorem dX6_placeAhead_1 : decode cX6_placeAhead 1 = .ok (.iload_n 1, 1) := by decide +kernel
theorem dX6_placeAhead_2 : decode cX6_placeAhead 2 = .ok (.invokevirtual 37, 3) := by decide +kernel
theorem dX6_placeAhead_5 : decode cX6_placeAhead 5 = .ok (.istore_n 2, 1) := by decide +kernel
theorem dX6_placeAhead_6 : decode cX6_placeAhead 6 = .ok (.aload_n 0, 1) := by decide +kernel
theorem dX6_placeAhead_7 : decode cX6_placeAhead 7 = .ok (.getfield 17, 3) := by decide +kernel
theorem dX6_placeAhead_10 : decode cX6_placeAhead 10 = .ok (.iload_n 2, 1) := by decide +kernel
theorem dX6_placeAhead_11 : decode cX6_placeAhead 11 = .ok (.invokevirtual 56, 3) := by decide +kernel
theorem dX6_placeAhead_14 : decode cX6_placeAhead 14 = .ok (.istore_n 3, 1) := by decide +kernel
theorem dX6_placeAhead_15 : decode cX6_placeAhead 15 = .ok (.iconst 0, 1) := by decide +kernel
theorem dX6_placeAhead_16 : decode cX6_placeAhead 16 = .ok (.istore 4, 2) := by decide +kernel
theorem dX6_placeAhead_18 : decode cX6_placeAhead 18 = .ok (.iload 4, 2) := by decide +kernel
theorem dX6_placeAhead_20 : decode cX6_placeAhead 20 = .ok (.aload_n 0, 1) := by decide +kernel
theorem dX6_placeAhead_21 : decode cX6_placeAhead 21 = .ok (.getfield 21, 3) := by decide +kernel
theorem dX6_placeAhead_24 : decode cX6_placeAhead 24 = .ok (.invokevirtual 33, 3) := by decide +kernel
theorem dX6_placeAhead_27 : decode cX6_placeAhead 27 = .ok (.if_icmp .ge 49, 3) := by decide +kernel
theorem dX6_placeAhead_30 : decode cX6_placeAhead 30 = .ok (.aload_n 0, 1) := by decide +kernel
theorem dX6_placeAhead_31 : decode cX6_placeAhead 31 = .ok (.getfield 21, 3) := by decide +kernel
theorem dX6_placeAhead_34 : decode cX6_placeAhead 34 = .ok (.iload 4, 2) := by decide +kernel
theorem dX6_placeAhead_36 : decode cX6_placeAhead 36 = .ok (.invokevirtual 61, 3) := by decide +kernel
theorem dX6_placeAhead_39 : decode cX6_placeAhead 39 = .ok (.istore 5, 2) := by decide +kernel
theorem dX6_placeAhead_41 : decode cX6_placeAhead 41 = .ok (.iload 5, 2) := by decide +kernel
theorem dX6_placeAhead_43 : decode cX6_placeAhead 43 = .ok (.iload_n 1, 1) := by decide +kernel
theorem dX6_placeAhead_44 : decode cX6_placeAhead 44 = .ok (.if_icmp .ne 6, 3) := by decide +kernel
theorem dX6_placeAhead_47 : decode cX6_placeAhead 47 = .ok (.goto 29, 3) := by decide +kernel
theorem dX6_placeAhead_50 : decode cX6_placeAhead 50 = .ok (.aload_n 0, 1) := by decide +kernel
theorem dX6_placeAhead_51 : decode cX6_placeAhead 51 = .ok (.iload 5, 2) := by decide +kernel
theorem dX6_placeAhead_53 : decode cX6_placeAhead 53 = .ok (.invokevirtual 37, 3) := by decide +kernel
theorem dX6_placeAhead_56 : decode cX6_placeAhead 56 = .ok (.iload_n 2, 1) := by decide +kernel
theorem dX6_placeAhead_57 : decode cX6_placeAhead 57 = .ok (.if_icmp .ne 13, 3) := by decide +kernel
theorem dX6_placeAhead_60 : decode cX6_placeAhead 60 = .ok (.aload_n 0, 1) := by decide +kernel
theorem dX6_placeAhead_61 : decode cX6_placeAhead 61 = .ok (.getfield 21, 3) := by decide +kernel
theorem dX6_placeAhead_64 : decode cX6_placeAhead 64 = .ok (.iload 5, 2) := by decide +kernel
theorem dX6_placeAhead_66 : decode cX6_placeAhead 66 = .ok (.invokevirtual 47, 3) := by decide +kernel
theorem dX6_placeAhead_69 : decode cX6_placeAhead 69 = .ok (.istore_n 3, 1) := by decide +kernel
theorem dX6_placeAhead_70 : decode cX6_placeAhead 70 = .ok (.iinc 4 1, 3) := by decide +kernel
theorem dX6_placeAhead_73 : decode cX6_placeAhead 73 = .ok (.goto (-55), 3) := by decide +kernel
theorem dX6_placeAhead_76 : decode cX6_placeAhead 76 = .ok (.iload_n 2, 1) := by decide +kernel
theorem dX6_placeAhead_77 : decode cX6_placeAhead 77 = .ok (.iconst (-1), 1) := by decide +kernel
theorem dX6_placeAhead_78 : decode cX6_placeAhead 78 = .ok (.if_icmp .ne 7, 3) := by decide +kernel
theorem dX6_placeAhead_81 : decode cX6_placeAhead 81 = .ok (.iconst (-1), 1) := by decide +kernel
theorem dX6_placeAhead_82 : decode cX6_placeAhead 82 = .ok (.goto 4, 3) := by decide +kernel
theorem dX6_placeAhead_85 : decode cX6_placeAhead 85 = .ok (.iload_n 3, 1) := by decide +kernel
theorem dX6_placeAhead_86 : decode cX6_placeAhead 86 = .ok (.ireturn, 1) := by decide +kernel
theorem dX6_hasLeg_0 : decode cX6_hasLeg 0 = .ok (.aload_n 0, 1) := by decide +kernel
theorem dX6_hasLeg_1 : decode cX6_hasLeg 1 = .ok (.iload_n 1, 1) := by decide +kernel
theorem dX6_hasLeg_2 : decode cX6_hasLeg 2 = .ok (.invokevirtual 37, 3) := by decide +kernel
theorem dX6_hasLeg_5 : decode cX6_hasLeg 5 = .ok (.iconst (-1), 1) := by decide +kernel
theorem dX6_hasLeg_6 : decode cX6_hasLeg 6 = .ok (.if_icmp .eq 23, 3) := by decide +kernel
theorem dX6_hasLeg_9 : decode cX6_hasLeg 9 = .ok (.aload_n 0, 1) := by decide +kernel
theorem dX6_hasLeg_10 : decode cX6_hasLeg 10 = .ok (.iload_n 1, 1) := by decide +kernel
theorem dX6_hasLeg_11 : decode cX6_hasLeg 11 = .ok (.invokevirtual 64, 3) := by decide +kernel
theorem dX6_hasLeg_14 : decode cX6_hasLeg 14 = .ok (.aload_n 0, 1) := by decide +kernel
theorem dX6_hasLeg_15 : decode cX6_hasLeg 15 = .ok (.getfield 21, 3) := by decide +kernel
theorem dX6_hasLeg_18 : decode cX6_hasLeg 18 = .ok (.iload_n 1, 1) := by decide +kernel
theorem dX6_hasLeg_19 : decode cX6_hasLeg 19 = .ok (.invokevirtual 44, 3) := by decide +kernel
theorem dX6_hasLeg_22 : decode cX6_hasLeg 22 = .ok (.if_icmp .eq 7, 3) := by decide +kernel
theorem dX6_hasLeg_25 : decode cX6_hasLeg 25 = .ok (.iconst 1, 1) := by decide +kernel
theorem dX6_hasLeg_26 : decode cX6_hasLeg 26 = .ok (.goto 4, 3) := by decide +kernel
theorem dX6_hasLeg_29 : decode cX6_hasLeg 29 = .ok (.iconst 0, 1) := by decide +kernel
theorem dX6_hasLeg_30 : decode cX6_hasLeg 30 = .ok (.ireturn, 1) := by decide +kernel
theorem dX6_legMinutes_0 : decode cX6_legMinutes 0 = .ok (.aload_n 0, 1) := by decide +kernel
theorem dX6_legMinutes_1 : decode cX6_legMinutes 1 = .ok (.iload_n 1, 1) := by decide +kernel
theorem dX6_legMinutes_2 : decode cX6_legMinutes 2 = .ok (.invokevirtual 67, 3) := by decide +kernel
theorem dX6_legMinutes_5 : decode cX6_legMinutes 5 = .ok (.ifCond .eq 26, 3) := by decide +kernel
theorem dX6_legMinutes_8 : decode cX6_legMinutes 8 = .ok (.aload_n 0, 1) := by decide +kernel
theorem dX6_legMinutes_9 : decode cX6_legMinutes 9 = .ok (.getfield 25, 3) := by decide +kernel
theorem dX6_legMinutes_12 : decode cX6_legMinutes 12 = .ok (.aload_n 0, 1) := by decide +kernel
theorem dX6_legMinutes_13 : decode cX6_legMinutes 13 = .ok (.iload_n 1, 1) := by decide +kernel
theorem dX6_legMinutes_14 : decode cX6_legMinutes 14 = .ok (.invokevirtual 64, 3) := by decide +kernel
theorem dX6_legMinutes_17 : decode cX6_legMinutes 17 = .ok (.aload_n 0, 1) := by decide +kernel
theorem dX6_legMinutes_18 : decode cX6_legMinutes 18 = .ok (.getfield 21, 3) := by decide +kernel
theorem dX6_legMinutes_21 : decode cX6_legMinutes 21 = .ok (.iload_n 1, 1) := by decide +kernel
theorem dX6_legMinutes_22 : decode cX6_legMinutes 22 = .ok (.invokevirtual 44, 3) := by decide +kernel
theorem dX6_legMinutes_25 : decode cX6_legMinutes 25 = .ok (.invokevirtual 50, 3) := by decide +kernel
theorem dX6_legMinutes_28 : decode cX6_legMinutes 28 = .ok (.goto 4, 3) := by decide +kernel
theorem dX6_legMinutes_31 : decode cX6_legMinutes 31 = .ok (.iconst 0, 1) := by decide +kernel
theorem dX6_legMinutes_32 : decode cX6_legMinutes 32 = .ok (.ireturn, 1) := by decide +kernel
theorem dX6_flightAt_0 : decode cX6_flightAt 0 = .ok (.iconst 0, 1) := by decide +kernel
theorem dX6_flightAt_1 : decode cX6_flightAt 1 = .ok (.istore_n 3, 1) := by decide +kernel
theorem dX6_flightAt_2 : decode cX6_flightAt 2 = .ok (.iconst 0, 1) := by decide +kernel
theorem dX6_flightAt_3 : decode cX6_flightAt 3 = .ok (.istore 4, 2) := by decide +kernel
theorem dX6_flightAt_5 : decode cX6_flightAt 5 = .ok (.iload 4, 2) := by decide +kernel
theorem dX6_flightAt_7 : decode cX6_flightAt 7 = .ok (.aload_n 0, 1) := by decide +kernel
theorem dX6_flightAt_8 : decode cX6_flightAt 8 = .ok (.getfield 21, 3) := by decide +kernel
theorem dX6_flightAt_11 : decode cX6_flightAt 11 = .ok (.invokevirtual 33, 3) := by decide +kernel
theorem dX6_flightAt_14 : decode cX6_flightAt 14 = .ok (.if_icmp .ge 69, 3) := by decide +kernel
theorem dX6_flightAt_17 : decode cX6_flightAt 17 = .ok (.aload_n 0, 1) := by decide +kernel
theorem dX6_flightAt_18 : decode cX6_flightAt 18 = .ok (.getfield 21, 3) := by decide +kernel
theorem dX6_flightAt_21 : decode cX6_flightAt 21 = .ok (.iload 4, 2) := by decide +kernel
theorem dX6_flightAt_23 : decode cX6_flightAt 23 = .ok (.invokevirtual 61, 3) := by decide +kernel
theorem dX6_flightAt_26 : decode cX6_flightAt 26 = .ok (.istore 5, 2) := by decide +kernel
theorem dX6_flightAt_28 : decode cX6_flightAt 28 = .ok (.aload_n 0, 1) := by decide +kernel
theorem dX6_flightAt_29 : decode cX6_flightAt 29 = .ok (.getfield 17, 3) := by decide +kernel
theorem dX6_flightAt_32 : decode cX6_flightAt 32 = .ok (.iload_n 1, 1) := by decide +kernel
theorem dX6_flightAt_33 : decode cX6_flightAt 33 = .ok (.invokevirtual 70, 3) := by decide +kernel
theorem dX6_flightAt_36 : decode cX6_flightAt 36 = .ok (.ifCond .eq 41, 3) := by decide +kernel
theorem dX6_flightAt_39 : decode cX6_flightAt 39 = .ok (.aload_n 0, 1) := by decide +kernel
theorem dX6_flightAt_40 : decode cX6_flightAt 40 = .ok (.iload 5, 2) := by decide +kernel
theorem dX6_flightAt_42 : decode cX6_flightAt 42 = .ok (.invokevirtual 37, 3) := by decide +kernel
theorem dX6_flightAt_45 : decode cX6_flightAt 45 = .ok (.iload_n 1, 1) := by decide +kernel
theorem dX6_flightAt_46 : decode cX6_flightAt 46 = .ok (.if_icmp .ne 31, 3) := by decide +kernel
theorem dX6_flightAt_49 : decode cX6_flightAt 49 = .ok (.iload_n 3, 1) := by decide +kernel
theorem dX6_flightAt_50 : decode cX6_flightAt 50 = .ok (.aload_n 0, 1) := by decide +kernel
theorem dX6_flightAt_51 : decode cX6_flightAt 51 = .ok (.iload 5, 2) := by decide +kernel
theorem dX6_flightAt_53 : decode cX6_flightAt 53 = .ok (.invokevirtual 67, 3) := by decide +kernel
theorem dX6_flightAt_56 : decode cX6_flightAt 56 = .ok (.ifCond .eq 7, 3) := by decide +kernel
theorem dX6_flightAt_59 : decode cX6_flightAt 59 = .ok (.iconst 1, 1) := by decide +kernel
theorem dX6_flightAt_60 : decode cX6_flightAt 60 = .ok (.goto 4, 3) := by decide +kernel
theorem dX6_flightAt_63 : decode cX6_flightAt 63 = .ok (.iconst 0, 1) := by decide +kernel
theorem dX6_flightAt_64 : decode cX6_flightAt 64 = .ok (.iadd, 1) := by decide +kernel
theorem dX6_flightAt_65 : decode cX6_flightAt 65 = .ok (.istore_n 3, 1) := by decide +kernel
theorem dX6_flightAt_66 : decode cX6_flightAt 66 = .ok (.iload_n 3, 1) := by decide +kernel
theorem dX6_flightAt_67 : decode cX6_flightAt 67 = .ok (.iload_n 2, 1) := by decide +kernel
theorem dX6_flightAt_68 : decode cX6_flightAt 68 = .ok (.if_icmp .ne 6, 3) := by decide +kernel
theorem dX6_flightAt_71 : decode cX6_flightAt 71 = .ok (.iload 5, 2) := by decide +kernel
theorem dX6_flightAt_73 : decode cX6_flightAt 73 = .ok (.ireturn, 1) := by decide +kernel
theorem dX6_flightAt_74 : decode cX6_flightAt 74 = .ok (.iinc 3 1, 3) := by decide +kernel
theorem dX6_flightAt_77 : decode cX6_flightAt 77 = .ok (.iinc 4 1, 3) := by decide +kernel
theorem dX6_flightAt_80 : decode cX6_flightAt 80 = .ok (.goto (-75), 3) := by decide +kernel
theorem dX6_flightAt_83 : decode cX6_flightAt 83 = .ok (.iconst (-1), 1) := by decide +kernel
theorem dX6_flightAt_84 : decode cX6_flightAt 84 = .ok (.ireturn, 1) := by decide +kernel
theorem dX6_legAt_0 : decode cX6_legAt 0 = .ok (.iload_n 2, 1) := by decide +kernel
theorem dX6_legAt_1 : decode cX6_legAt 1 = .ok (.ifCond .lt 9, 3) := by decide +kernel
theorem dX6_legAt_4 : decode cX6_legAt 4 = .ok (.iload_n 2, 1) := by decide +kernel
theorem dX6_legAt_5 : decode cX6_legAt 5 = .ok (.ldc 73, 2) := by decide +kernel
theorem dX6_legAt_7 : decode cX6_legAt 7 = .ok (.if_icmp .ne 7, 3) := by decide +kernel
theorem dX6_legAt_10 : decode cX6_legAt 10 = .ok (.iconst (-1), 1) := by decide +kernel
theorem dX6_legAt_11 : decode cX6_legAt 11 = .ok (.goto 11, 3) := by decide +kernel
theorem dX6_legAt_14 : decode cX6_legAt 14 = .ok (.aload_n 0, 1) := by decide +kernel
theorem dX6_legAt_15 : decode cX6_legAt 15 = .ok (.iload_n 1, 1) := by decide +kernel
theorem dX6_legAt_16 : decode cX6_legAt 16 = .ok (.iload_n 2, 1) := by decide +kernel
theorem dX6_legAt_17 : decode cX6_legAt 17 = .ok (.iconst 1, 1) := by decide +kernel
theorem dX6_legAt_18 : decode cX6_legAt 18 = .ok (.iadd, 1) := by decide +kernel
theorem dX6_legAt_19 : decode cX6_legAt 19 = .ok (.invokevirtual 74, 3) := by decide +kernel
theorem dX6_legAt_22 : decode cX6_legAt 22 = .ok (.istore_n 3, 1) := by decide +kernel
theorem dX6_legAt_23 : decode cX6_legAt 23 = .ok (.aload_n 0, 1) := by decide +kernel
theorem dX6_legAt_24 : decode cX6_legAt 24 = .ok (.iload_n 3, 1) := by decide +kernel
theorem dX6_legAt_25 : decode cX6_legAt 25 = .ok (.invokevirtual 67, 3) := by decide +kernel
theorem dX6_legAt_28 : decode cX6_legAt 28 = .ok (.ifCond .eq 7, 3) := by decide +kernel
theorem dX6_legAt_31 : decode cX6_legAt 31 = .ok (.iload_n 3, 1) := by decide +kernel
theorem dX6_legAt_32 : decode cX6_legAt 32 = .ok (.goto 4, 3) := by decide +kernel
theorem dX6_legAt_35 : decode cX6_legAt 35 = .ok (.iconst (-1), 1) := by decide +kernel
theorem dX6_legAt_36 : decode cX6_legAt 36 = .ok (.ireturn, 1) := by decide +kernel
theorem dX7_init_0 : decode cX7_init 0 = .ok (.aload_n 0, 1) := by decide +kernel
theorem dX7_init_1 : decode cX7_init 1 = .ok (.invokespecial 3, 3) := by decide +kernel
theorem dX7_init_4 : decode cX7_init 4 = .ok (.aload_n 0, 1) := by decide +kernel
theorem dX7_init_5 : decode cX7_init 5 = .ok (.bipush 20, 2) := by decide +kernel
theorem dX7_init_7 : decode cX7_init 7 = .ok (.newarray .int, 2) := by decide +kernel
theorem dX7_init_9 : decode cX7_init 9 = .ok (.putfield 11, 3) := by decide +kernel
theorem dX7_init_12 : decode cX7_init 12 = .ok (.aload_n 0, 1) := by decide +kernel
theorem dX7_init_13 : decode cX7_init 13 = .ok (.bipush 20, 2) := by decide +kernel
theorem dX7_init_15 : decode cX7_init 15 = .ok (.newarray .int, 2) := by decide +kernel
theorem dX7_init_17 : decode cX7_init 17 = .ok (.putfield 15, 3) := by decide +kernel
theorem dX7_init_20 : decode cX7_init 20 = .ok (.aload_n 0, 1) := by decide +kernel
theorem dX7_init_21 : decode cX7_init 21 = .ok (.bipush 20, 2) := by decide +kernel
theorem dX7_init_23 : decode cX7_init 23 = .ok (.newarray .int, 2) := by decide +kernel
theorem dX7_init_25 : decode cX7_init 25 = .ok (.putfield 18, 3) := by decide +kernel
theorem dX7_init_28 : decode cX7_init 28 = .ok (.return_, 1) := by decide +kernel
theorem dX7_add_0 : decode cX7_add 0 = .ok (.aload_n 0, 1) := by decide +kernel
theorem dX7_add_1 : decode cX7_add 1 = .ok (.getfield 21, 3) := by decide +kernel
theorem dX7_add_4 : decode cX7_add 4 = .ok (.bipush 20, 2) := by decide +kernel
theorem dX7_add_6 : decode cX7_add 6 = .ok (.if_icmp .lt 5, 3) := by decide +kernel
theorem dX7_add_9 : decode cX7_add 9 = .ok (.iconst (-1), 1) := by decide +kernel
theorem dX7_add_10 : decode cX7_add 10 = .ok (.ireturn, 1) := by decide +kernel
theorem dX7_add_11 : decode cX7_add 11 = .ok (.aload_n 0, 1) := by decide +kernel
theorem dX7_add_12 : decode cX7_add 12 = .ok (.getfield 11, 3) := by decide +kernel
theorem dX7_add_15 : decode cX7_add 15 = .ok (.aload_n 0, 1) := by decide +kernel
theorem dX7_add_16 : decode cX7_add 16 = .ok (.getfield 21, 3) := by decide +kernel
theorem dX7_add_19 : decode cX7_add 19 = .ok (.iload_n 1, 1) := by decide +kernel
theorem dX7_add_20 : decode cX7_add 20 = .ok (.iastore, 1) := by decide +kernel
theorem dX7_add_21 : decode cX7_add 21 = .ok (.aload_n 0, 1) := by decide +kernel
theorem dX7_add_22 : decode cX7_add 22 = .ok (.getfield 15, 3) := by decide +kernel
theorem dX7_add_25 : decode cX7_add 25 = .ok (.aload_n 0, 1) := by decide +kernel
theorem dX7_add_26 : decode cX7_add 26 = .ok (.getfield 21, 3) := by decide +kernel
theorem dX7_add_29 : decode cX7_add 29 = .ok (.iload_n 2, 1) := by decide +kernel
theorem dX7_add_30 : decode cX7_add 30 = .ok (.iastore, 1) := by decide +kernel
theorem dX7_add_31 : decode cX7_add 31 = .ok (.aload_n 0, 1) := by decide +kernel
theorem dX7_add_32 : decode cX7_add 32 = .ok (.getfield 18, 3) := by decide +kernel
theorem dX7_add_35 : decode cX7_add 35 = .ok (.aload_n 0, 1) := by decide +kernel
theorem dX7_add_36 : decode cX7_add 36 = .ok (.getfield 21, 3) := by decide +kernel
theorem dX7_add_39 : decode cX7_add 39 = .ok (.iload_n 3, 1) := by decide +kernel
theorem dX7_add_40 : decode cX7_add 40 = .ok (.iastore, 1) := by decide +kernel
theorem dX7_add_41 : decode cX7_add 41 = .ok (.aload_n 0, 1) := by decide +kernel
theorem dX7_add_42 : decode cX7_add 42 = .ok (.dup, 1) := by decide +kernel
theorem dX7_add_43 : decode cX7_add 43 = .ok (.getfield 21, 3) := by decide +kernel
theorem dX7_add_46 : decode cX7_add 46 = .ok (.iconst 1, 1) := by decide +kernel
theorem dX7_add_47 : decode cX7_add 47 = .ok (.iadd, 1) := by decide +kernel
theorem dX7_add_48 : decode cX7_add 48 = .ok (.putfield 21, 3) := by decide +kernel
theorem dX7_add_51 : decode cX7_add 51 = .ok (.aload_n 0, 1) := by decide +kernel
theorem dX7_add_52 : decode cX7_add 52 = .ok (.getfield 21, 3) := by decide +kernel
theorem dX7_add_55 : decode cX7_add 55 = .ok (.iconst 1, 1) := by decide +kernel
theorem dX7_add_56 : decode cX7_add 56 = .ok (.isub, 1) := by decide +kernel
theorem dX7_add_57 : decode cX7_add 57 = .ok (.ireturn, 1) := by decide +kernel
theorem dX7_size_0 : decode cX7_size 0 = .ok (.aload_n 0, 1) := by decide +kernel
theorem dX7_size_1 : decode cX7_size 1 = .ok (.getfield 21, 3) := by decide +kernel
theorem dX7_size_4 : decode cX7_size 4 = .ok (.ireturn, 1) := by decide +kernel
theorem dX7_shuts_0 : decode cX7_shuts 0 = .ok (.iconst 0, 1) := by decide +kernel
theorem dX7_shuts_1 : decode cX7_shuts 1 = .ok (.istore_n 3, 1) := by decide +kernel
theorem dX7_shuts_2 : decode cX7_shuts 2 = .ok (.iload_n 3, 1) := by decide +kernel
theorem dX7_shuts_3 : decode cX7_shuts 3 = .ok (.aload_n 0, 1) := by decide +kernel
theorem dX7_shuts_4 : decode cX7_shuts 4 = .ok (.getfield 21, 3) := by decide +kernel
theorem dX7_shuts_7 : decode cX7_shuts 7 = .ok (.if_icmp .ge 41, 3) := by decide +kernel
theorem dX7_shuts_10 : decode cX7_shuts 10 = .ok (.aload_n 0, 1) := by decide +kernel
theorem dX7_shuts_11 : decode cX7_shuts 11 = .ok (.getfield 11, 3) := by decide +kernel
theorem dX7_shuts_14 : decode cX7_shuts 14 = .ok (.iload_n 3, 1) := by decide +kernel
theorem dX7_shuts_15 : decode cX7_shuts 15 = .ok (.iaload, 1) := by decide +kernel
theorem dX7_shuts_16 : decode cX7_shuts 16 = .ok (.iload_n 1, 1) := by decide +kernel
theorem dX7_shuts_17 : decode cX7_shuts 17 = .ok (.if_icmp .ne 25, 3) := by decide +kernel
theorem dX7_shuts_20 : decode cX7_shuts 20 = .ok (.iload_n 2, 1) := by decide +kernel
theorem dX7_shuts_21 : decode cX7_shuts 21 = .ok (.aload_n 0, 1) := by decide +kernel
theorem dX7_shuts_22 : decode cX7_shuts 22 = .ok (.getfield 15, 3) := by decide +kernel
theorem dX7_shuts_25 : decode cX7_shuts 25 = .ok (.iload_n 3, 1) := by decide +kernel
theorem dX7_shuts_26 : decode cX7_shuts 26 = .ok (.iaload, 1) := by decide +kernel
theorem dX7_shuts_27 : decode cX7_shuts 27 = .ok (.if_icmp .lt 15, 3) := by decide +kernel
theorem dX7_shuts_30 : decode cX7_shuts 30 = .ok (.iload_n 2, 1) := by decide +kernel
theorem dX7_shuts_31 : decode cX7_shuts 31 = .ok (.aload_n 0, 1) := by decide +kernel
theorem dX7_shuts_32 : decode cX7_shuts 32 = .ok (.getfield 18, 3) := by decide +kernel
theorem dX7_shuts_35 : decode cX7_shuts 35 = .ok (.iload_n 3, 1) := by decide +kernel
theorem dX7_shuts_36 : decode cX7_shuts 36 = .ok (.iaload, 1) := by decide +kernel
theorem dX7_shuts_37 : decode cX7_shuts 37 = .ok (.if_icmp .ge 5, 3) := by decide +kernel
theorem dX7_shuts_40 : decode cX7_shuts 40 = .ok (.iconst 1, 1) := by decide +kernel
theorem dX7_shuts_41 : decode cX7_shuts 41 = .ok (.ireturn, 1) := by decide +kernel
theorem dX7_shuts_42 : decode cX7_shuts 42 = .ok (.iinc 3 1, 3) := by decide +kernel
theorem dX7_shuts_45 : decode cX7_shuts 45 = .ok (.goto (-43), 3) := by decide +kernel
theorem dX7_shuts_48 : decode cX7_shuts 48 = .ok (.iconst 0, 1) := by decide +kernel
theorem dX7_shuts_49 : decode cX7_shuts 49 = .ok (.ireturn, 1) := by decide +kernel
theorem dX8_init_0 : decode cX8_init 0 = .ok (.aload_n 0, 1) := by decide +kernel
theorem dX8_init_1 : decode cX8_init 1 = .ok (.invokespecial 1, 3) := by decide +kernel
theorem dX8_init_4 : decode cX8_init 4 = .ok (.aload_n 0, 1) := by decide +kernel
theorem dX8_init_5 : decode cX8_init 5 = .ok (.bipush 40, 2) := by decide +kernel
theorem dX8_init_7 : decode cX8_init 7 = .ok (.newarray .int, 2) := by decide +kernel
theorem dX8_init_9 : decode cX8_init 9 = .ok (.putfield 9, 3) := by decide +kernel
theorem dX8_init_12 : decode cX8_init 12 = .ok (.return_, 1) := by decide +kernel
theorem dX8_length_0 : decode cX8_length 0 = .ok (.aload_n 0, 1) := by decide +kernel
theorem dX8_length_1 : decode cX8_length 1 = .ok (.getfield 13, 3) := by decide +kernel
theorem dX8_length_4 : decode cX8_length 4 = .ok (.ireturn, 1) := by decide +kernel
theorem dX8_hasRoom_0 : decode cX8_hasRoom 0 = .ok (.aload_n 0, 1) := by decide +kernel
theorem dX8_hasRoom_1 : decode cX8_hasRoom 1 = .ok (.getfield 13, 3) := by decide +kernel
theorem dX8_hasRoom_4 : decode cX8_hasRoom 4 = .ok (.bipush 20, 2) := by decide +kernel
theorem dX8_hasRoom_6 : decode cX8_hasRoom 6 = .ok (.iadd, 1) := by decide +kernel
theorem dX8_hasRoom_7 : decode cX8_hasRoom 7 = .ok (.bipush 40, 2) := by decide +kernel
theorem dX8_hasRoom_9 : decode cX8_hasRoom 9 = .ok (.if_icmp .gt 7, 3) := by decide +kernel
theorem dX8_hasRoom_12 : decode cX8_hasRoom 12 = .ok (.iconst 1, 1) := by decide +kernel
theorem dX8_hasRoom_13 : decode cX8_hasRoom 13 = .ok (.goto 4, 3) := by decide +kernel
theorem dX8_hasRoom_16 : decode cX8_hasRoom 16 = .ok (.iconst 0, 1) := by decide +kernel
theorem dX8_hasRoom_17 : decode cX8_hasRoom 17 = .ok (.ireturn, 1) := by decide +kernel
theorem dX8_write_0 : decode cX8_write 0 = .ok (.bipush 24, 2) := by decide +kernel
theorem dX8_write_2 : decode cX8_write 2 = .ok (.istore_n 2, 1) := by decide +kernel
theorem dX8_write_3 : decode cX8_write 3 = .ok (.iload_n 2, 1) := by decide +kernel
theorem dX8_write_4 : decode cX8_write 4 = .ok (.ifCond .lt 44, 3) := by decide +kernel
theorem dX8_write_7 : decode cX8_write 7 = .ok (.aload_n 0, 1) := by decide +kernel
theorem dX8_write_8 : decode cX8_write 8 = .ok (.getfield 13, 3) := by decide +kernel
theorem dX8_write_11 : decode cX8_write 11 = .ok (.bipush 40, 2) := by decide +kernel
theorem dX8_write_13 : decode cX8_write 13 = .ok (.if_icmp .ge 29, 3) := by decide +kernel
theorem dX8_write_16 : decode cX8_write 16 = .ok (.aload_n 0, 1) := by decide +kernel
theorem dX8_write_17 : decode cX8_write 17 = .ok (.getfield 9, 3) := by decide +kernel
theorem dX8_write_20 : decode cX8_write 20 = .ok (.aload_n 0, 1) := by decide +kernel
theorem dX8_write_21 : decode cX8_write 21 = .ok (.getfield 13, 3) := by decide +kernel
theorem dX8_write_24 : decode cX8_write 24 = .ok (.iload_n 1, 1) := by decide +kernel
theorem dX8_write_25 : decode cX8_write 25 = .ok (.iload_n 2, 1) := by decide +kernel
theorem dX8_write_26 : decode cX8_write 26 = .ok (.iushr, 1) := by decide +kernel
theorem dX8_write_27 : decode cX8_write 27 = .ok (.sipush 255, 3) := by decide +kernel
theorem dX8_write_30 : decode cX8_write 30 = .ok (.iand, 1) := by decide +kernel
theorem dX8_write_31 : decode cX8_write 31 = .ok (.iastore, 1) := by decide +kernel
theorem dX8_write_32 : decode cX8_write 32 = .ok (.aload_n 0, 1) := by decide +kernel
theorem dX8_write_33 : decode cX8_write 33 = .ok (.dup, 1) := by decide +kernel
theorem dX8_write_34 : decode cX8_write 34 = .ok (.getfield 13, 3) := by decide +kernel
theorem dX8_write_37 : decode cX8_write 37 = .ok (.iconst 1, 1) := by decide +kernel
theorem dX8_write_38 : decode cX8_write 38 = .ok (.iadd, 1) := by decide +kernel
theorem dX8_write_39 : decode cX8_write 39 = .ok (.putfield 13, 3) := by decide +kernel
theorem dX8_write_42 : decode cX8_write 42 = .ok (.iinc 2 (-8), 3) := by decide +kernel
theorem dX8_write_45 : decode cX8_write 45 = .ok (.goto (-42), 3) := by decide +kernel
theorem dX8_write_48 : decode cX8_write 48 = .ok (.return_, 1) := by decide +kernel
theorem dX8_at_0 : decode cX8_at 0 = .ok (.iload_n 1, 1) := by decide +kernel
theorem dX8_at_1 : decode cX8_at 1 = .ok (.ifCond .lt 25, 3) := by decide +kernel
theorem dX8_at_4 : decode cX8_at 4 = .ok (.iload_n 1, 1) := by decide +kernel
theorem dX8_at_5 : decode cX8_at 5 = .ok (.iload_n 2, 1) := by decide +kernel
theorem dX8_at_6 : decode cX8_at 6 = .ok (.if_icmp .ge 20, 3) := by decide +kernel
theorem dX8_at_9 : decode cX8_at 9 = .ok (.iload_n 1, 1) := by decide +kernel
theorem dX8_at_10 : decode cX8_at 10 = .ok (.aload_n 0, 1) := by decide +kernel
theorem dX8_at_11 : decode cX8_at 11 = .ok (.getfield 13, 3) := by decide +kernel
theorem dX8_at_14 : decode cX8_at 14 = .ok (.if_icmp .ge 12, 3) := by decide +kernel
theorem dX8_at_17 : decode cX8_at 17 = .ok (.aload_n 0, 1) := by decide +kernel
theorem dX8_at_18 : decode cX8_at 18 = .ok (.getfield 9, 3) := by decide +kernel
theorem dX8_at_21 : decode cX8_at 21 = .ok (.iload_n 1, 1) := by decide +kernel
theorem dX8_at_22 : decode cX8_at 22 = .ok (.iaload, 1) := by decide +kernel
theorem dX8_at_23 : decode cX8_at 23 = .ok (.goto 4, 3) := by decide +kernel
theorem dX8_at_26 : decode cX8_at 26 = .ok (.iconst (-1), 1) := by decide +kernel
theorem dX8_at_27 : decode cX8_at 27 = .ok (.ireturn, 1) := by decide +kernel
theorem dX8_wipe_0 : decode cX8_wipe 0 = .ok (.aload_n 0, 1) := by decide +kernel
theorem dX8_wipe_1 : decode cX8_wipe 1 = .ok (.iconst 0, 1) := by decide +kernel
theorem dX8_wipe_2 : decode cX8_wipe 2 = .ok (.putfield 13, 3) := by decide +kernel
theorem dX8_wipe_5 : decode cX8_wipe 5 = .ok (.return_, 1) := by decide +kernel
theorem dX9_init_0 : decode cX9_init 0 = .ok (.aload_n 0, 1) := by decide +kernel
theorem dX9_init_1 : decode cX9_init 1 = .ok (.invokespecial 3, 3) := by decide +kernel
theorem dX9_init_4 : decode cX9_init 4 = .ok (.aload_n 0, 1) := by decide +kernel
theorem dX9_init_5 : decode cX9_init 5 = .ok (.bipush 64, 2) := by decide +kernel
theorem dX9_init_7 : decode cX9_init 7 = .ok (.newarray .int, 2) := by decide +kernel
theorem dX9_init_9 : decode cX9_init 9 = .ok (.putfield 9, 3) := by decide +kernel
theorem dX9_init_12 : decode cX9_init 12 = .ok (.return_, 1) := by decide +kernel
theorem dX9_minutes_0 : decode cX9_minutes 0 = .ok (.iload_n 1, 1) := by decide +kernel
theorem dX9_minutes_1 : decode cX9_minutes 1 = .ok (.invokestatic 15, 3) := by decide +kernel
theorem dX9_minutes_4 : decode cX9_minutes 4 = .ok (.ifCond .eq 24, 3) := by decide +kernel
theorem dX9_minutes_7 : decode cX9_minutes 7 = .ok (.iload_n 2, 1) := by decide +kernel
theorem dX9_minutes_8 : decode cX9_minutes 8 = .ok (.invokestatic 15, 3) := by decide +kernel
theorem dX9_minutes_11 : decode cX9_minutes 11 = .ok (.ifCond .eq 17, 3) := by decide +kernel
theorem dX9_minutes_14 : decode cX9_minutes 14 = .ok (.aload_n 0, 1) := by decide +kernel
theorem dX9_minutes_15 : decode cX9_minutes 15 = .ok (.getfield 9, 3) := by decide +kernel
theorem dX9_minutes_18 : decode cX9_minutes 18 = .ok (.iload_n 1, 1) := by decide +kernel
theorem dX9_minutes_19 : decode cX9_minutes 19 = .ok (.bipush 8, 2) := by decide +kernel
theorem dX9_minutes_21 : decode cX9_minutes 21 = .ok (.imul, 1) := by decide +kernel
theorem dX9_minutes_22 : decode cX9_minutes 22 = .ok (.iload_n 2, 1) := by decide +kernel
theorem dX9_minutes_23 : decode cX9_minutes 23 = .ok (.iadd, 1) := by decide +kernel
theorem dX9_minutes_24 : decode cX9_minutes 24 = .ok (.iaload, 1) := by decide +kernel
theorem dX9_minutes_25 : decode cX9_minutes 25 = .ok (.goto 4, 3) := by decide +kernel
theorem dX9_minutes_28 : decode cX9_minutes 28 = .ok (.iconst 0, 1) := by decide +kernel
theorem dX9_minutes_29 : decode cX9_minutes 29 = .ok (.ireturn, 1) := by decide +kernel
theorem dX9_put_0 : decode cX9_put 0 = .ok (.iload_n 1, 1) := by decide +kernel
theorem dX9_put_1 : decode cX9_put 1 = .ok (.invokestatic 15, 3) := by decide +kernel
theorem dX9_put_4 : decode cX9_put 4 = .ok (.ifCond .eq 34, 3) := by decide +kernel
theorem dX9_put_7 : decode cX9_put 7 = .ok (.iload_n 2, 1) := by decide +kernel
theorem dX9_put_8 : decode cX9_put 8 = .ok (.invokestatic 15, 3) := by decide +kernel
theorem dX9_put_11 : decode cX9_put 11 = .ok (.ifCond .eq 27, 3) := by decide +kernel
theorem dX9_put_14 : decode cX9_put 14 = .ok (.aload_n 0, 1) := by decide +kernel
theorem dX9_put_15 : decode cX9_put 15 = .ok (.getfield 9, 3) := by decide +kernel
theorem dX9_put_18 : decode cX9_put 18 = .ok (.iload_n 1, 1) := by decide +kernel
theorem dX9_put_19 : decode cX9_put 19 = .ok (.bipush 8, 2) := by decide +kernel
theorem dX9_put_21 : decode cX9_put 21 = .ok (.imul, 1) := by decide +kernel
theorem dX9_put_22 : decode cX9_put 22 = .ok (.iload_n 2, 1) := by decide +kernel
theorem dX9_put_23 : decode cX9_put 23 = .ok (.iadd, 1) := by decide +kernel
theorem dX9_put_24 : decode cX9_put 24 = .ok (.iload_n 3, 1) := by decide +kernel
theorem dX9_put_25 : decode cX9_put 25 = .ok (.iastore, 1) := by decide +kernel
theorem dX9_put_26 : decode cX9_put 26 = .ok (.aload_n 0, 1) := by decide +kernel
theorem dX9_put_27 : decode cX9_put 27 = .ok (.getfield 9, 3) := by decide +kernel
theorem dX9_put_30 : decode cX9_put 30 = .ok (.iload_n 2, 1) := by decide +kernel
theorem dX9_put_31 : decode cX9_put 31 = .ok (.bipush 8, 2) := by decide +kernel
theorem dX9_put_33 : decode cX9_put 33 = .ok (.imul, 1) := by decide +kernel
theorem dX9_put_34 : decode cX9_put 34 = .ok (.iload_n 1, 1) := by decide +kernel
theorem dX9_put_35 : decode cX9_put 35 = .ok (.iadd, 1) := by decide +kernel
theorem dX9_put_36 : decode cX9_put 36 = .ok (.iload_n 3, 1) := by decide +kernel
theorem dX9_put_37 : decode cX9_put 37 = .ok (.iastore, 1) := by decide +kernel
theorem dX9_put_38 : decode cX9_put 38 = .ok (.return_, 1) := by decide +kernel
theorem dX10_init_0 : decode cX10_init 0 = .ok (.aload_n 0, 1) := by decide +kernel
theorem dX10_init_1 : decode cX10_init 1 = .ok (.invokespecial 3, 3) := by decide +kernel
theorem dX10_init_4 : decode cX10_init 4 = .ok (.aload_n 0, 1) := by decide +kernel
theorem dX10_init_5 : decode cX10_init 5 = .ok (.new 9, 3) := by decide +kernel
theorem dX10_init_8 : decode cX10_init 8 = .ok (.dup, 1) := by decide +kernel
theorem dX10_init_9 : decode cX10_init 9 = .ok (.invokespecial 11, 3) := by decide +kernel
theorem dX10_init_12 : decode cX10_init 12 = .ok (.putfield 12, 3) := by decide +kernel
theorem dX10_init_15 : decode cX10_init 15 = .ok (.aload_n 0, 1) := by decide +kernel
theorem dX10_init_16 : decode cX10_init 16 = .ok (.new 16, 3) := by decide +kernel
theorem dX10_init_19 : decode cX10_init 19 = .ok (.dup, 1) := by decide +kernel
theorem dX10_init_20 : decode cX10_init 20 = .ok (.invokespecial 18, 3) := by decide +kernel
theorem dX10_init_23 : decode cX10_init 23 = .ok (.putfield 19, 3) := by decide +kernel
theorem dX10_init_26 : decode cX10_init 26 = .ok (.aload_n 0, 1) := by decide +kernel
theorem dX10_init_27 : decode cX10_init 27 = .ok (.new 23, 3) := by decide +kernel
theorem dX10_init_30 : decode cX10_init 30 = .ok (.dup, 1) := by decide +kernel
theorem dX10_init_31 : decode cX10_init 31 = .ok (.invokespecial 25, 3) := by decide +kernel
theorem dX10_init_34 : decode cX10_init 34 = .ok (.putfield 26, 3) := by decide +kernel
theorem dX10_init_37 : decode cX10_init 37 = .ok (.aload_n 0, 1) := by decide +kernel
theorem dX10_init_38 : decode cX10_init 38 = .ok (.new 30, 3) := by decide +kernel
theorem dX10_init_41 : decode cX10_init 41 = .ok (.dup, 1) := by decide +kernel
theorem dX10_init_42 : decode cX10_init 42 = .ok (.invokespecial 32, 3) := by decide +kernel
theorem dX10_init_45 : decode cX10_init 45 = .ok (.putfield 33, 3) := by decide +kernel
theorem dX10_init_48 : decode cX10_init 48 = .ok (.aload_n 0, 1) := by decide +kernel
theorem dX10_init_49 : decode cX10_init 49 = .ok (.new 37, 3) := by decide +kernel
theorem dX10_init_52 : decode cX10_init 52 = .ok (.dup, 1) := by decide +kernel
theorem dX10_init_53 : decode cX10_init 53 = .ok (.invokespecial 39, 3) := by decide +kernel
theorem dX10_init_56 : decode cX10_init 56 = .ok (.putfield 40, 3) := by decide +kernel
theorem dX10_init_59 : decode cX10_init 59 = .ok (.aload_n 0, 1) := by decide +kernel
theorem dX10_init_60 : decode cX10_init 60 = .ok (.new 44, 3) := by decide +kernel
theorem dX10_init_63 : decode cX10_init 63 = .ok (.dup, 1) := by decide +kernel
theorem dX10_init_64 : decode cX10_init 64 = .ok (.invokespecial 46, 3) := by decide +kernel
theorem dX10_init_67 : decode cX10_init 67 = .ok (.putfield 47, 3) := by decide +kernel
theorem dX10_init_70 : decode cX10_init 70 = .ok (.aload_n 0, 1) := by decide +kernel
theorem dX10_init_71 : decode cX10_init 71 = .ok (.new 51, 3) := by decide +kernel
theorem dX10_init_74 : decode cX10_init 74 = .ok (.dup, 1) := by decide +kernel
theorem dX10_init_75 : decode cX10_init 75 = .ok (.aload_n 0, 1) := by decide +kernel
theorem dX10_init_76 : decode cX10_init 76 = .ok (.getfield 33, 3) := by decide +kernel
theorem dX10_init_79 : decode cX10_init 79 = .ok (.aload_n 0, 1) := by decide +kernel
theorem dX10_init_80 : decode cX10_init 80 = .ok (.getfield 40, 3) := by decide +kernel
theorem dX10_init_83 : decode cX10_init 83 = .ok (.aload_n 0, 1) := by decide +kernel
theorem dX10_init_84 : decode cX10_init 84 = .ok (.getfield 26, 3) := by decide +kernel
theorem dX10_init_87 : decode cX10_init 87 = .ok (.invokespecial 53, 3) := by decide +kernel
theorem dX10_init_90 : decode cX10_init 90 = .ok (.putfield 56, 3) := by decide +kernel
theorem dX10_init_93 : decode cX10_init 93 = .ok (.aload_n 0, 1) := by decide +kernel
theorem dX10_init_94 : decode cX10_init 94 = .ok (.new 60, 3) := by decide +kernel
theorem dX10_init_97 : decode cX10_init 97 = .ok (.dup, 1) := by decide +kernel
theorem dX10_init_98 : decode cX10_init 98 = .ok (.aload_n 0, 1) := by decide +kernel
theorem dX10_init_99 : decode cX10_init 99 = .ok (.getfield 33, 3) := by decide +kernel
theorem dX10_init_102 : decode cX10_init 102 = .ok (.aload_n 0, 1) := by decide +kernel
theorem dX10_init_103 : decode cX10_init 103 = .ok (.getfield 40, 3) := by decide +kernel
theorem dX10_init_106 : decode cX10_init 106 = .ok (.aload_n 0, 1) := by decide +kernel
theorem dX10_init_107 : decode cX10_init 107 = .ok (.getfield 56, 3) := by decide +kernel
theorem dX10_init_110 : decode cX10_init 110 = .ok (.new 62, 3) := by decide +kernel
theorem dX10_init_113 : decode cX10_init 113 = .ok (.dup, 1) := by decide +kernel
theorem dX10_init_114 : decode cX10_init 114 = .ok (.aload_n 0, 1) := by decide +kernel
theorem dX10_init_115 : decode cX10_init 115 = .ok (.getfield 33, 3) := by decide +kernel
theorem dX10_init_118 : decode cX10_init 118 = .ok (.aload_n 0, 1) := by decide +kernel
theorem dX10_init_119 : decode cX10_init 119 = .ok (.getfield 40, 3) := by decide +kernel
theorem dX10_init_122 : decode cX10_init 122 = .ok (.aload_n 0, 1) := by decide +kernel
theorem dX10_init_123 : decode cX10_init 123 = .ok (.getfield 26, 3) := by decide +kernel
theorem dX10_init_126 : decode cX10_init 126 = .ok (.aload_n 0, 1) := by decide +kernel
theorem dX10_init_127 : decode cX10_init 127 = .ok (.getfield 47, 3) := by decide +kernel
theorem dX10_init_130 : decode cX10_init 130 = .ok (.aload_n 0, 1) := by decide +kernel
theorem dX10_init_131 : decode cX10_init 131 = .ok (.getfield 19, 3) := by decide +kernel
theorem dX10_init_134 : decode cX10_init 134 = .ok (.invokespecial 64, 3) := by decide +kernel
theorem dX10_init_137 : decode cX10_init 137 = .ok (.invokespecial 67, 3) := by decide +kernel
theorem dX10_init_140 : decode cX10_init 140 = .ok (.putfield 70, 3) := by decide +kernel
theorem dX10_init_143 : decode cX10_init 143 = .ok (.aload_n 0, 1) := by decide +kernel
theorem dX10_init_144 : decode cX10_init 144 = .ok (.new 74, 3) := by decide +kernel
theorem dX10_init_147 : decode cX10_init 147 = .ok (.dup, 1) := by decide +kernel
theorem dX10_init_148 : decode cX10_init 148 = .ok (.invokespecial 76, 3) := by decide +kernel
theorem dX10_init_151 : decode cX10_init 151 = .ok (.putfield 77, 3) := by decide +kernel
theorem dX10_init_154 : decode cX10_init 154 = .ok (.aload_n 0, 1) := by decide +kernel
theorem dX10_init_155 : decode cX10_init 155 = .ok (.iconst 0, 1) := by decide +kernel
theorem dX10_init_156 : decode cX10_init 156 = .ok (.putfield 81, 3) := by decide +kernel
theorem dX10_init_159 : decode cX10_init 159 = .ok (.return_, 1) := by decide +kernel
theorem dX10_feed_0 : decode cX10_feed 0 = .ok (.aload_n 0, 1) := by decide +kernel
theorem dX10_feed_1 : decode cX10_feed 1 = .ok (.getfield 12, 3) := by decide +kernel
theorem dX10_feed_4 : decode cX10_feed 4 = .ok (.invokevirtual 85, 3) := by decide +kernel
theorem dX10_feed_7 : decode cX10_feed 7 = .ok (.ifCond .ne 5, 3) := by decide +kernel
theorem dX10_feed_10 : decode cX10_feed 10 = .ok (.iconst (-1), 1) := by decide +kernel
theorem dX10_feed_11 : decode cX10_feed 11 = .ok (.ireturn, 1) := by decide +kernel
theorem dX10_feed_12 : decode cX10_feed 12 = .ok (.aload_n 0, 1) := by decide +kernel
theorem dX10_feed_13 : decode cX10_feed 13 = .ok (.getfield 12, 3) := by decide +kernel
theorem dX10_feed_16 : decode cX10_feed 16 = .ok (.iload_n 1, 1) := by decide +kernel
theorem dX10_feed_17 : decode cX10_feed 17 = .ok (.invokevirtual 89, 3) := by decide +kernel
theorem dX10_feed_20 : decode cX10_feed 20 = .ok (.aload_n 0, 1) := by decide +kernel
theorem dX10_feed_21 : decode cX10_feed 21 = .ok (.getfield 12, 3) := by decide +kernel
theorem dX10_feed_24 : decode cX10_feed 24 = .ok (.iload_n 2, 1) := by decide +kernel
theorem dX10_feed_25 : decode cX10_feed 25 = .ok (.invokevirtual 89, 3) := by decide +kernel
theorem dX10_feed_28 : decode cX10_feed 28 = .ok (.aload_n 0, 1) := by decide +kernel
theorem dX10_feed_29 : decode cX10_feed 29 = .ok (.getfield 12, 3) := by decide +kernel
theorem dX10_feed_32 : decode cX10_feed 32 = .ok (.iload_n 3, 1) := by decide +kernel
theorem dX10_feed_33 : decode cX10_feed 33 = .ok (.invokevirtual 89, 3) := by decide +kernel
theorem dX10_feed_36 : decode cX10_feed 36 = .ok (.aload_n 0, 1) := by decide +kernel
theorem dX10_feed_37 : decode cX10_feed 37 = .ok (.getfield 12, 3) := by decide +kernel
theorem dX10_feed_40 : decode cX10_feed 40 = .ok (.iload 4, 2) := by decide +kernel
theorem dX10_feed_42 : decode cX10_feed 42 = .ok (.invokevirtual 89, 3) := by decide +kernel
theorem dX10_feed_45 : decode cX10_feed 45 = .ok (.aload_n 0, 1) := by decide +kernel
theorem dX10_feed_46 : decode cX10_feed 46 = .ok (.getfield 12, 3) := by decide +kernel
theorem dX10_feed_49 : decode cX10_feed 49 = .ok (.iload 5, 2) := by decide +kernel
theorem dX10_feed_51 : decode cX10_feed 51 = .ok (.invokevirtual 89, 3) := by decide +kernel
theorem dX10_feed_54 : decode cX10_feed 54 = .ok (.aload_n 0, 1) := by decide +kernel
theorem dX10_feed_55 : decode cX10_feed 55 = .ok (.getfield 12, 3) := by decide +kernel
theorem dX10_feed_58 : decode cX10_feed 58 = .ok (.invokevirtual 93, 3) := by decide +kernel
theorem dX10_feed_61 : decode cX10_feed 61 = .ok (.ireturn, 1) := by decide +kernel
theorem dX10_law_0 : decode cX10_law 0 = .ok (.iload_n 1, 1) := by decide +kernel
theorem dX10_law_1 : decode cX10_law 1 = .ok (.invokestatic 97, 3) := by decide +kernel
theorem dX10_law_4 : decode cX10_law 4 = .ok (.ifCond .eq 18, 3) := by decide +kernel
theorem dX10_law_7 : decode cX10_law 7 = .ok (.iload_n 2, 1) := by decide +kernel
theorem dX10_law_8 : decode cX10_law 8 = .ok (.ifCond .lt 14, 3) := by decide +kernel
theorem dX10_law_11 : decode cX10_law 11 = .ok (.iload_n 2, 1) := by decide +kernel
theorem dX10_law_12 : decode cX10_law 12 = .ok (.aload_n 0, 1) := by decide +kernel
theorem dX10_law_13 : decode cX10_law 13 = .ok (.getfield 12, 3) := by decide +kernel
theorem dX10_law_16 : decode cX10_law 16 = .ok (.invokevirtual 93, 3) := by decide +kernel
theorem dX10_law_19 : decode cX10_law 19 = .ok (.if_icmp .le 5, 3) := by decide +kernel
theorem dX10_law_22 : decode cX10_law 22 = .ok (.iconst (-1), 1) := by decide +kernel
theorem dX10_law_23 : decode cX10_law 23 = .ok (.ireturn, 1) := by decide +kernel
theorem dX10_law_24 : decode cX10_law 24 = .ok (.aload_n 0, 1) := by decide +kernel
theorem dX10_law_25 : decode cX10_law 25 = .ok (.getfield 19, 3) := by decide +kernel
theorem dX10_law_28 : decode cX10_law 28 = .ok (.aload_n 0, 1) := by decide +kernel
theorem dX10_law_29 : decode cX10_law 29 = .ok (.getfield 12, 3) := by decide +kernel
theorem dX10_law_32 : decode cX10_law 32 = .ok (.iload_n 2, 1) := by decide +kernel
theorem dX10_law_33 : decode cX10_law 33 = .ok (.invokevirtual 101, 3) := by decide +kernel
theorem dX10_law_36 : decode cX10_law 36 = .ok (.istore_n 3, 1) := by decide +kernel
theorem dX10_law_37 : decode cX10_law 37 = .ok (.aload_n 0, 1) := by decide +kernel
theorem dX10_law_38 : decode cX10_law 38 = .ok (.getfield 12, 3) := by decide +kernel
theorem dX10_law_41 : decode cX10_law 41 = .ok (.invokevirtual 105, 3) := by decide +kernel
theorem dX10_law_44 : decode cX10_law 44 = .ok (.iload_n 3, 1) := by decide +kernel
theorem dX10_law_45 : decode cX10_law 45 = .ok (.ifCond .ne 11, 3) := by decide +kernel
theorem dX10_law_48 : decode cX10_law 48 = .ok (.aload_n 0, 1) := by decide +kernel
theorem dX10_law_49 : decode cX10_law 49 = .ok (.getfield 19, 3) := by decide +kernel
theorem dX10_law_52 : decode cX10_law 52 = .ok (.iload_n 1, 1) := by decide +kernel
theorem dX10_law_53 : decode cX10_law 53 = .ok (.invokevirtual 108, 3) := by decide +kernel
theorem dX10_law_56 : decode cX10_law 56 = .ok (.iload_n 3, 1) := by decide +kernel
theorem dX10_law_57 : decode cX10_law 57 = .ok (.ireturn, 1) := by decide +kernel
theorem dX10_rule_0 : decode cX10_rule 0 = .ok (.iload_n 2, 1) := by decide +kernel
theorem dX10_rule_1 : decode cX10_rule 1 = .ok (.ifCond .ne 12, 3) := by decide +kernel
theorem dX10_rule_4 : decode cX10_rule 4 = .ok (.aload_n 0, 1) := by decide +kernel
theorem dX10_rule_5 : decode cX10_rule 5 = .ok (.getfield 19, 3) := by decide +kernel
theorem dX10_rule_8 : decode cX10_rule 8 = .ok (.iload_n 1, 1) := by decide +kernel
theorem dX10_rule_9 : decode cX10_rule 9 = .ok (.invokevirtual 111, 3) := by decide +kernel
theorem dX10_rule_12 : decode cX10_rule 12 = .ok (.ireturn, 1) := by decide +kernel
theorem dX10_rule_13 : decode cX10_rule 13 = .ok (.iload_n 2, 1) := by decide +kernel
theorem dX10_rule_14 : decode cX10_rule 14 = .ok (.iconst 1, 1) := by decide +kernel
theorem dX10_rule_15 : decode cX10_rule 15 = .ok (.if_icmp .ne 14, 3) := by decide +kernel
theorem dX10_rule_18 : decode cX10_rule 18 = .ok (.aload_n 0, 1) := by decide +kernel
theorem dX10_rule_19 : decode cX10_rule 19 = .ok (.getfield 19, 3) := by decide +kernel
theorem dX10_rule_22 : decode cX10_rule 22 = .ok (.iload_n 1, 1) := by decide +kernel
theorem dX10_rule_23 : decode cX10_rule 23 = .ok (.invokevirtual 115, 3) := by decide +kernel
theorem dX10_rule_26 : decode cX10_rule 26 = .ok (.goto 4, 3) := by decide +kernel
theorem dX10_rule_29 : decode cX10_rule 29 = .ok (.iconst (-1), 1) := by decide +kernel
theorem dX10_rule_30 : decode cX10_rule 30 = .ok (.ireturn, 1) := by decide +kernel
theorem dX10_way_0 : decode cX10_way 0 = .ok (.iload_n 1, 1) := by decide +kernel
theorem dX10_way_1 : decode cX10_way 1 = .ok (.invokestatic 118, 3) := by decide +kernel
theorem dX10_way_4 : decode cX10_way 4 = .ok (.ifCond .eq 15, 3) := by decide +kernel
theorem dX10_way_7 : decode cX10_way 7 = .ok (.iload_n 2, 1) := by decide +kernel
theorem dX10_way_8 : decode cX10_way 8 = .ok (.invokestatic 118, 3) := by decide +kernel
theorem dX10_way_11 : decode cX10_way 11 = .ok (.ifCond .eq 8, 3) := by decide +kernel
theorem dX10_way_14 : decode cX10_way 14 = .ok (.iload_n 1, 1) := by decide +kernel
theorem dX10_way_15 : decode cX10_way 15 = .ok (.iload_n 2, 1) := by decide +kernel
theorem dX10_way_16 : decode cX10_way 16 = .ok (.if_icmp .ne 5, 3) := by decide +kernel
theorem dX10_way_19 : decode cX10_way 19 = .ok (.iconst 0, 1) := by decide +kernel
theorem dX10_way_20 : decode cX10_way 20 = .ok (.ireturn, 1) := by decide +kernel
theorem dX10_way_21 : decode cX10_way 21 = .ok (.iload_n 3, 1) := by decide +kernel
theorem dX10_way_22 : decode cX10_way 22 = .ok (.ifCond .ne 17, 3) := by decide +kernel
theorem dX10_way_25 : decode cX10_way 25 = .ok (.aload_n 0, 1) := by decide +kernel
theorem dX10_way_26 : decode cX10_way 26 = .ok (.getfield 40, 3) := by decide +kernel
theorem dX10_way_29 : decode cX10_way 29 = .ok (.iload_n 1, 1) := by decide +kernel
theorem dX10_way_30 : decode cX10_way 30 = .ok (.iload_n 2, 1) := by decide +kernel
theorem dX10_way_31 : decode cX10_way 31 = .ok (.invokevirtual 121, 3) := by decide +kernel
theorem dX10_way_34 : decode cX10_way 34 = .ok (.ifCond .eq 19, 3) := by decide +kernel
theorem dX10_way_37 : decode cX10_way 37 = .ok (.iconst 0, 1) := by decide +kernel
theorem dX10_way_38 : decode cX10_way 38 = .ok (.ireturn, 1) := by decide +kernel
theorem dX10_way_39 : decode cX10_way 39 = .ok (.iload_n 3, 1) := by decide +kernel
theorem dX10_way_40 : decode cX10_way 40 = .ok (.bipush 10, 2) := by decide +kernel
theorem dX10_way_42 : decode cX10_way 42 = .ok (.sipush 600, 3) := by decide +kernel
theorem dX10_way_45 : decode cX10_way 45 = .ok (.invokestatic 125, 3) := by decide +kernel
theorem dX10_way_48 : decode cX10_way 48 = .ok (.ifCond .ne 5, 3) := by decide +kernel
theorem dX10_way_51 : decode cX10_way 51 = .ok (.iconst 0, 1) := by decide +kernel
theorem dX10_way_52 : decode cX10_way 52 = .ok (.ireturn, 1) := by decide +kernel
theorem dX10_way_53 : decode cX10_way 53 = .ok (.aload_n 0, 1) := by decide +kernel
theorem dX10_way_54 : decode cX10_way 54 = .ok (.getfield 26, 3) := by decide +kernel
theorem dX10_way_57 : decode cX10_way 57 = .ok (.iload_n 1, 1) := by decide +kernel
theorem dX10_way_58 : decode cX10_way 58 = .ok (.iload_n 2, 1) := by decide +kernel
theorem dX10_way_59 : decode cX10_way 59 = .ok (.iload_n 3, 1) := by decide +kernel
theorem dX10_way_60 : decode cX10_way 60 = .ok (.invokevirtual 129, 3) := by decide +kernel
theorem dX10_way_63 : decode cX10_way 63 = .ok (.iconst 1, 1) := by decide +kernel
theorem dX10_way_64 : decode cX10_way 64 = .ok (.ireturn, 1) := by decide +kernel
theorem dX10_plane_0 : decode cX10_plane 0 = .ok (.iload_n 1, 1) := by decide +kernel
theorem dX10_plane_1 : decode cX10_plane 1 = .ok (.invokestatic 118, 3) := by decide +kernel
theorem dX10_plane_4 : decode cX10_plane 4 = .ok (.ifCond .eq 13, 3) := by decide +kernel
theorem dX10_plane_7 : decode cX10_plane 7 = .ok (.iload_n 2, 1) := by decide +kernel
theorem dX10_plane_8 : decode cX10_plane 8 = .ok (.iconst 1, 1) := by decide +kernel
theorem dX10_plane_9 : decode cX10_plane 9 = .ok (.bipush 30, 2) := by decide +kernel
theorem dX10_plane_11 : decode cX10_plane 11 = .ok (.invokestatic 125, 3) := by decide +kernel
theorem dX10_plane_14 : decode cX10_plane 14 = .ok (.ifCond .ne 5, 3) := by decide +kernel
theorem dX10_plane_17 : decode cX10_plane 17 = .ok (.iconst (-1), 1) := by decide +kernel
theorem dX10_plane_18 : decode cX10_plane 18 = .ok (.ireturn, 1) := by decide +kernel
theorem dX10_plane_19 : decode cX10_plane 19 = .ok (.iload_n 3, 1) := by decide +kernel
theorem dX10_plane_20 : decode cX10_plane 20 = .ok (.iconst 0, 1) := by decide +kernel
theorem dX10_plane_21 : decode cX10_plane 21 = .ok (.sipush 180, 3) := by decide +kernel
theorem dX10_plane_24 : decode cX10_plane 24 = .ok (.invokestatic 125, 3) := by decide +kernel
theorem dX10_plane_27 : decode cX10_plane 27 = .ok (.ifCond .eq 15, 3) := by decide +kernel
theorem dX10_plane_30 : decode cX10_plane 30 = .ok (.iload 4, 2) := by decide +kernel
theorem dX10_plane_32 : decode cX10_plane 32 = .ok (.iconst 1, 1) := by decide +kernel
theorem dX10_plane_33 : decode cX10_plane 33 = .ok (.sipush 1000, 3) := by decide +kernel
theorem dX10_plane_36 : decode cX10_plane 36 = .ok (.invokestatic 125, 3) := by decide +kernel
theorem dX10_plane_39 : decode cX10_plane 39 = .ok (.ifCond .ne 5, 3) := by decide +kernel
theorem dX10_plane_42 : decode cX10_plane 42 = .ok (.iconst (-1), 1) := by decide +kernel
theorem dX10_plane_43 : decode cX10_plane 43 = .ok (.ireturn, 1) := by decide +kernel
theorem dX10_plane_44 : decode cX10_plane 44 = .ok (.aload_n 0, 1) := by decide +kernel
theorem dX10_plane_45 : decode cX10_plane 45 = .ok (.getfield 33, 3) := by decide +kernel
theorem dX10_plane_48 : decode cX10_plane 48 = .ok (.iload_n 1, 1) := by decide +kernel
theorem dX10_plane_49 : decode cX10_plane 49 = .ok (.iload_n 2, 1) := by decide +kernel
theorem dX10_plane_50 : decode cX10_plane 50 = .ok (.iload_n 3, 1) := by decide +kernel
theorem dX10_plane_51 : decode cX10_plane 51 = .ok (.iload 4, 2) := by decide +kernel
theorem dX10_plane_53 : decode cX10_plane 53 = .ok (.invokevirtual 133, 3) := by decide +kernel
theorem dX10_plane_56 : decode cX10_plane 56 = .ok (.ireturn, 1) := by decide +kernel
theorem dX10_flight_0 : decode cX10_flight 0 = .ok (.aload_n 0, 1) := by decide +kernel
theorem dX10_flight_1 : decode cX10_flight 1 = .ok (.getfield 26, 3) := by decide +kernel
theorem dX10_flight_4 : decode cX10_flight 4 = .ok (.iload_n 1, 1) := by decide +kernel
theorem dX10_flight_5 : decode cX10_flight 5 = .ok (.iload_n 2, 1) := by decide +kernel
theorem dX10_flight_6 : decode cX10_flight 6 = .ok (.invokevirtual 137, 3) := by decide +kernel
theorem dX10_flight_9 : decode cX10_flight 9 = .ok (.ifCond .eq 21, 3) := by decide +kernel
theorem dX10_flight_12 : decode cX10_flight 12 = .ok (.iload_n 3, 1) := by decide +kernel
theorem dX10_flight_13 : decode cX10_flight 13 = .ok (.invokestatic 141, 3) := by decide +kernel
theorem dX10_flight_16 : decode cX10_flight 16 = .ok (.ifCond .eq 14, 3) := by decide +kernel
theorem dX10_flight_19 : decode cX10_flight 19 = .ok (.iload 4, 2) := by decide +kernel
theorem dX10_flight_21 : decode cX10_flight 21 = .ok (.iconst 1, 1) := by decide +kernel
theorem dX10_flight_22 : decode cX10_flight 22 = .ok (.bipush 30, 2) := by decide +kernel
theorem dX10_flight_24 : decode cX10_flight 24 = .ok (.invokestatic 125, 3) := by decide +kernel
theorem dX10_flight_27 : decode cX10_flight 27 = .ok (.ifCond .ne 5, 3) := by decide +kernel
theorem dX10_flight_30 : decode cX10_flight 30 = .ok (.iconst (-1), 1) := by decide +kernel
theorem dX10_flight_31 : decode cX10_flight 31 = .ok (.ireturn, 1) := by decide +kernel
theorem dX10_flight_32 : decode cX10_flight 32 = .ok (.aload_n 0, 1) := by decide +kernel
theorem dX10_flight_33 : decode cX10_flight 33 = .ok (.getfield 40, 3) := by decide +kernel
theorem dX10_flight_36 : decode cX10_flight 36 = .ok (.iload_n 1, 1) := by decide +kernel
theorem dX10_flight_37 : decode cX10_flight 37 = .ok (.iload_n 2, 1) := by decide +kernel
theorem dX10_flight_38 : decode cX10_flight 38 = .ok (.iload_n 3, 1) := by decide +kernel
theorem dX10_flight_39 : decode cX10_flight 39 = .ok (.iload 4, 2) := by decide +kernel
theorem dX10_flight_41 : decode cX10_flight 41 = .ok (.invokevirtual 144, 3) := by decide +kernel
theorem dX10_flight_44 : decode cX10_flight 44 = .ok (.ireturn, 1) := by decide +kernel
theorem dX10_cancel_0 : decode cX10_cancel 0 = .ok (.aload_n 0, 1) := by decide +kernel
theorem dX10_cancel_1 : decode cX10_cancel 1 = .ok (.getfield 40, 3) := by decide +kernel
theorem dX10_cancel_4 : decode cX10_cancel 4 = .ok (.iload_n 1, 1) := by decide +kernel
theorem dX10_cancel_5 : decode cX10_cancel 5 = .ok (.invokevirtual 145, 3) := by decide +kernel
theorem dX10_cancel_8 : decode cX10_cancel 8 = .ok (.ifCond .ne 5, 3) := by decide +kernel
theorem dX10_cancel_11 : decode cX10_cancel 11 = .ok (.iconst 0, 1) := by decide +kernel
theorem dX10_cancel_12 : decode cX10_cancel 12 = .ok (.ireturn, 1) := by decide +kernel
theorem dX10_cancel_13 : decode cX10_cancel 13 = .ok (.aload_n 0, 1) := by decide +kernel
theorem dX10_cancel_14 : decode cX10_cancel 14 = .ok (.getfield 40, 3) := by decide +kernel
theorem dX10_cancel_17 : decode cX10_cancel 17 = .ok (.iload_n 1, 1) := by decide +kernel
theorem dX10_cancel_18 : decode cX10_cancel 18 = .ok (.invokevirtual 148, 3) := by decide +kernel
theorem dX10_cancel_21 : decode cX10_cancel 21 = .ok (.aload_n 0, 1) := by decide +kernel
theorem dX10_cancel_22 : decode cX10_cancel 22 = .ok (.getfield 56, 3) := by decide +kernel
theorem dX10_cancel_25 : decode cX10_cancel 25 = .ok (.iload_n 1, 1) := by decide +kernel
theorem dX10_cancel_26 : decode cX10_cancel 26 = .ok (.iconst (-1), 1) := by decide +kernel
theorem dX10_cancel_27 : decode cX10_cancel 27 = .ok (.invokevirtual 151, 3) := by decide +kernel
theorem dX10_cancel_30 : decode cX10_cancel 30 = .ok (.aload_n 0, 1) := by decide +kernel
theorem dX10_cancel_31 : decode cX10_cancel 31 = .ok (.getfield 77, 3) := by decide +kernel
theorem dX10_cancel_34 : decode cX10_cancel 34 = .ok (.aload_n 0, 1) := by decide +kernel
theorem dX10_cancel_35 : decode cX10_cancel 35 = .ok (.getfield 56, 3) := by decide +kernel
theorem dX10_cancel_38 : decode cX10_cancel 38 = .ok (.invokevirtual 155, 3) := by decide +kernel
theorem dX10_cancel_41 : decode cX10_cancel 41 = .ok (.iconst 1, 1) := by decide +kernel
theorem dX10_cancel_42 : decode cX10_cancel 42 = .ok (.ireturn, 1) := by decide +kernel
theorem dX10_storm_0 : decode cX10_storm 0 = .ok (.iload_n 1, 1) := by decide +kernel
theorem dX10_storm_1 : decode cX10_storm 1 = .ok (.invokestatic 118, 3) := by decide +kernel
theorem dX10_storm_4 : decode cX10_storm 4 = .ok (.ifCond .eq 23, 3) := by decide +kernel
theorem dX10_storm_7 : decode cX10_storm 7 = .ok (.iload_n 2, 1) := by decide +kernel
theorem dX10_storm_8 : decode cX10_storm 8 = .ok (.invokestatic 141, 3) := by decide +kernel
theorem dX10_storm_11 : decode cX10_storm 11 = .ok (.ifCond .eq 16, 3) := by decide +kernel
theorem dX10_storm_14 : decode cX10_storm 14 = .ok (.iload_n 3, 1) := by decide +kernel
theorem dX10_storm_15 : decode cX10_storm 15 = .ok (.iload_n 2, 1) := by decide +kernel
theorem dX10_storm_16 : decode cX10_storm 16 = .ok (.iconst 1, 1) := by decide +kernel
theorem dX10_storm_17 : decode cX10_storm 17 = .ok (.iadd, 1) := by decide +kernel
theorem dX10_storm_18 : decode cX10_storm 18 = .ok (.sipush 10080, 3) := by decide +kernel
theorem dX10_storm_21 : decode cX10_storm 21 = .ok (.invokestatic 125, 3) := by decide +kernel
theorem dX10_storm_24 : decode cX10_storm 24 = .ok (.ifCond .ne 5, 3) := by decide +kernel
theorem dX10_storm_27 : decode cX10_storm 27 = .ok (.iconst (-1), 1) := by decide +kernel
theorem dX10_storm_28 : decode cX10_storm 28 = .ok (.ireturn, 1) := by decide +kernel
theorem dX10_storm_29 : decode cX10_storm 29 = .ok (.aload_n 0, 1) := by decide +kernel
theorem dX10_storm_30 : decode cX10_storm 30 = .ok (.getfield 47, 3) := by decide +kernel
theorem dX10_storm_33 : decode cX10_storm 33 = .ok (.iload_n 1, 1) := by decide +kernel
theorem dX10_storm_34 : decode cX10_storm 34 = .ok (.iload_n 2, 1) := by decide +kernel
theorem dX10_storm_35 : decode cX10_storm 35 = .ok (.iload_n 3, 1) := by decide +kernel
theorem dX10_storm_36 : decode cX10_storm 36 = .ok (.invokevirtual 159, 3) := by decide +kernel
theorem dX10_storm_39 : decode cX10_storm 39 = .ok (.ireturn, 1) := by decide +kernel
theorem dX10_clock_0 : decode cX10_clock 0 = .ok (.iload_n 1, 1) := by decide +kernel
theorem dX10_clock_1 : decode cX10_clock 1 = .ok (.invokestatic 141, 3) := by decide +kernel
theorem dX10_clock_4 : decode cX10_clock 4 = .ok (.ifCond .eq 11, 3) := by decide +kernel
theorem dX10_clock_7 : decode cX10_clock 7 = .ok (.iload_n 1, 1) := by decide +kernel
theorem dX10_clock_8 : decode cX10_clock 8 = .ok (.aload_n 0, 1) := by decide +kernel
theorem dX10_clock_9 : decode cX10_clock 9 = .ok (.getfield 81, 3) := by decide +kernel
theorem dX10_clock_12 : decode cX10_clock 12 = .ok (.if_icmp .ge 5, 3) := by decide +kernel
theorem dX10_clock_15 : decode cX10_clock 15 = .ok (.iconst 0, 1) := by decide +kernel
theorem dX10_clock_16 : decode cX10_clock 16 = .ok (.ireturn, 1) := by decide +kernel
theorem dX10_clock_17 : decode cX10_clock 17 = .ok (.aload_n 0, 1) := by decide +kernel
theorem dX10_clock_18 : decode cX10_clock 18 = .ok (.iload_n 1, 1) := by decide +kernel
theorem dX10_clock_19 : decode cX10_clock 19 = .ok (.putfield 81, 3) := by decide +kernel
theorem dX10_clock_22 : decode cX10_clock 22 = .ok (.aload_n 0, 1) := by decide +kernel
theorem dX10_clock_23 : decode cX10_clock 23 = .ok (.getfield 77, 3) := by decide +kernel
theorem dX10_clock_26 : decode cX10_clock 26 = .ok (.aload_n 0, 1) := by decide +kernel
theorem dX10_clock_27 : decode cX10_clock 27 = .ok (.getfield 81, 3) := by decide +kernel
theorem dX10_clock_30 : decode cX10_clock 30 = .ok (.invokevirtual 162, 3) := by decide +kernel
theorem dX10_clock_33 : decode cX10_clock 33 = .ok (.iconst 1, 1) := by decide +kernel
theorem dX10_clock_34 : decode cX10_clock 34 = .ok (.ireturn, 1) := by decide +kernel
theorem dX10_plan_0 : decode cX10_plan 0 = .ok (.aload_n 0, 1) := by decide +kernel
theorem dX10_plan_1 : decode cX10_plan 1 = .ok (.getfield 70, 3) := by decide +kernel
theorem dX10_plan_4 : decode cX10_plan 4 = .ok (.iconst 0, 1) := by decide +kernel
theorem dX10_plan_5 : decode cX10_plan 5 = .ok (.invokevirtual 165, 3) := by decide +kernel
theorem dX10_plan_8 : decode cX10_plan 8 = .ok (.pop, 1) := by decide +kernel
theorem dX10_plan_9 : decode cX10_plan 9 = .ok (.aload_n 0, 1) := by decide +kernel
theorem dX10_plan_10 : decode cX10_plan 10 = .ok (.getfield 77, 3) := by decide +kernel
theorem dX10_plan_13 : decode cX10_plan 13 = .ok (.aload_n 0, 1) := by decide +kernel
theorem dX10_plan_14 : decode cX10_plan 14 = .ok (.getfield 56, 3) := by decide +kernel
theorem dX10_plan_17 : decode cX10_plan 17 = .ok (.invokevirtual 155, 3) := by decide +kernel
theorem dX10_plan_20 : decode cX10_plan 20 = .ok (.aload_n 0, 1) := by decide +kernel
theorem dX10_plan_21 : decode cX10_plan 21 = .ok (.getfield 56, 3) := by decide +kernel
theorem dX10_plan_24 : decode cX10_plan 24 = .ok (.invokevirtual 169, 3) := by decide +kernel
theorem dX10_plan_27 : decode cX10_plan 27 = .ok (.ireturn, 1) := by decide +kernel
theorem dX10_replan_0 : decode cX10_replan 0 = .ok (.aload_n 0, 1) := by decide +kernel
theorem dX10_replan_1 : decode cX10_replan 1 = .ok (.getfield 70, 3) := by decide +kernel
theorem dX10_replan_4 : decode cX10_replan 4 = .ok (.iconst 1, 1) := by decide +kernel
theorem dX10_replan_5 : decode cX10_replan 5 = .ok (.invokevirtual 165, 3) := by decide +kernel
theorem dX10_replan_8 : decode cX10_replan 8 = .ok (.istore_n 1, 1) := by decide +kernel
theorem dX10_replan_9 : decode cX10_replan 9 = .ok (.aload_n 0, 1) := by decide +kernel
theorem dX10_replan_10 : decode cX10_replan 10 = .ok (.getfield 77, 3) := by decide +kernel
theorem dX10_replan_13 : decode cX10_replan 13 = .ok (.aload_n 0, 1) := by decide +kernel
theorem dX10_replan_14 : decode cX10_replan 14 = .ok (.getfield 56, 3) := by decide +kernel
theorem dX10_replan_17 : decode cX10_replan 17 = .ok (.invokevirtual 155, 3) := by decide +kernel
theorem dX10_replan_20 : decode cX10_replan 20 = .ok (.iload_n 1, 1) := by decide +kernel
theorem dX10_replan_21 : decode cX10_replan 21 = .ok (.ireturn, 1) := by decide +kernel
theorem dX10_fits_0 : decode cX10_fits 0 = .ok (.aload_n 0, 1) := by decide +kernel
theorem dX10_fits_1 : decode cX10_fits 1 = .ok (.getfield 70, 3) := by decide +kernel
theorem dX10_fits_4 : decode cX10_fits 4 = .ok (.invokevirtual 172, 3) := by decide +kernel
theorem dX10_fits_7 : decode cX10_fits 7 = .ok (.ifCond .eq 7, 3) := by decide +kernel
theorem dX10_fits_10 : decode cX10_fits 10 = .ok (.iconst 1, 1) := by decide +kernel
theorem dX10_fits_11 : decode cX10_fits 11 = .ok (.goto 4, 3) := by decide +kernel
theorem dX10_fits_14 : decode cX10_fits 14 = .ok (.iconst 0, 1) := by decide +kernel
theorem dX10_fits_15 : decode cX10_fits 15 = .ok (.ireturn, 1) := by decide +kernel
theorem dX10_on_0 : decode cX10_on 0 = .ok (.aload_n 0, 1) := by decide +kernel
theorem dX10_on_1 : decode cX10_on 1 = .ok (.getfield 56, 3) := by decide +kernel
theorem dX10_on_4 : decode cX10_on 4 = .ok (.iload_n 1, 1) := by decide +kernel
theorem dX10_on_5 : decode cX10_on 5 = .ok (.invokevirtual 175, 3) := by decide +kernel
theorem dX10_on_8 : decode cX10_on 8 = .ok (.ireturn, 1) := by decide +kernel
theorem dX10_move_0 : decode cX10_move 0 = .ok (.aload_n 0, 1) := by decide +kernel
theorem dX10_move_1 : decode cX10_move 1 = .ok (.getfield 56, 3) := by decide +kernel
theorem dX10_move_4 : decode cX10_move 4 = .ok (.iload_n 1, 1) := by decide +kernel
theorem dX10_move_5 : decode cX10_move 5 = .ok (.iload_n 2, 1) := by decide +kernel
theorem dX10_move_6 : decode cX10_move 6 = .ok (.invokevirtual 178, 3) := by decide +kernel
theorem dX10_move_9 : decode cX10_move 9 = .ok (.istore 4, 2) := by decide +kernel
theorem dX10_move_11 : decode cX10_move 11 = .ok (.iload 4, 2) := by decide +kernel
theorem dX10_move_13 : decode cX10_move 13 = .ok (.iconst (-1), 1) := by decide +kernel
theorem dX10_move_14 : decode cX10_move 14 = .ok (.if_icmp .eq 11, 3) := by decide +kernel
theorem dX10_move_17 : decode cX10_move 17 = .ok (.aload_n 0, 1) := by decide +kernel
theorem dX10_move_18 : decode cX10_move 18 = .ok (.iload 4, 2) := by decide +kernel
theorem dX10_move_20 : decode cX10_move 20 = .ok (.iload_n 3, 1) := by decide +kernel
theorem dX10_move_21 : decode cX10_move 21 = .ok (.invokevirtual 181, 3) := by decide +kernel
theorem dX10_move_24 : decode cX10_move 24 = .ok (.ireturn, 1) := by decide +kernel
theorem dX10_move_25 : decode cX10_move 25 = .ok (.aload_n 0, 1) := by decide +kernel
theorem dX10_move_26 : decode cX10_move 26 = .ok (.getfield 56, 3) := by decide +kernel
theorem dX10_move_29 : decode cX10_move 29 = .ok (.iload_n 1, 1) := by decide +kernel
theorem dX10_move_30 : decode cX10_move 30 = .ok (.iload_n 2, 1) := by decide +kernel
theorem dX10_move_31 : decode cX10_move 31 = .ok (.invokevirtual 184, 3) := by decide +kernel
theorem dX10_move_34 : decode cX10_move 34 = .ok (.istore 5, 2) := by decide +kernel
theorem dX10_move_36 : decode cX10_move 36 = .ok (.iload 5, 2) := by decide +kernel
theorem dX10_move_38 : decode cX10_move 38 = .ok (.iconst (-1), 1) := by decide +kernel
theorem dX10_move_39 : decode cX10_move 39 = .ok (.if_icmp .ne 7, 3) := by decide +kernel
theorem dX10_move_42 : decode cX10_move 42 = .ok (.iconst (-1), 1) := by decide +kernel
theorem dX10_move_43 : decode cX10_move 43 = .ok (.goto 10, 3) := by decide +kernel
theorem dX10_move_46 : decode cX10_move 46 = .ok (.aload_n 0, 1) := by decide +kernel
theorem dX10_move_47 : decode cX10_move 47 = .ok (.iload 5, 2) := by decide +kernel
theorem dX10_move_49 : decode cX10_move 49 = .ok (.iload_n 3, 1) := by decide +kernel
theorem dX10_move_50 : decode cX10_move 50 = .ok (.invokevirtual 187, 3) := by decide +kernel
theorem dX10_move_53 : decode cX10_move 53 = .ok (.ireturn, 1) := by decide +kernel
theorem dX10_offer_0 : decode cX10_offer 0 = .ok (.aload_n 0, 1) := by decide +kernel
theorem dX10_offer_1 : decode cX10_offer 1 = .ok (.getfield 56, 3) := by decide +kernel
theorem dX10_offer_4 : decode cX10_offer 4 = .ok (.iload_n 1, 1) := by decide +kernel
theorem dX10_offer_5 : decode cX10_offer 5 = .ok (.iload_n 2, 1) := by decide +kernel
theorem dX10_offer_6 : decode cX10_offer 6 = .ok (.invokevirtual 184, 3) := by decide +kernel
theorem dX10_offer_9 : decode cX10_offer 9 = .ok (.istore 5, 2) := by decide +kernel
theorem dX10_offer_11 : decode cX10_offer 11 = .ok (.iload 5, 2) := by decide +kernel
theorem dX10_offer_13 : decode cX10_offer 13 = .ok (.iconst (-1), 1) := by decide +kernel
theorem dX10_offer_14 : decode cX10_offer 14 = .ok (.if_icmp .eq 13, 3) := by decide +kernel
theorem dX10_offer_17 : decode cX10_offer 17 = .ok (.iload_n 3, 1) := by decide +kernel
theorem dX10_offer_18 : decode cX10_offer 18 = .ok (.iconst 0, 1) := by decide +kernel
theorem dX10_offer_19 : decode cX10_offer 19 = .ok (.ldc 190, 2) := by decide +kernel
theorem dX10_offer_21 : decode cX10_offer 21 = .ok (.invokestatic 125, 3) := by decide +kernel
theorem dX10_offer_24 : decode cX10_offer 24 = .ok (.ifCond .ne 5, 3) := by decide +kernel
theorem dX10_offer_27 : decode cX10_offer 27 = .ok (.iconst (-1), 1) := by decide +kernel
theorem dX10_offer_28 : decode cX10_offer 28 = .ok (.ireturn, 1) := by decide +kernel
theorem dX10_offer_29 : decode cX10_offer 29 = .ok (.iload 4, 2) := by decide +kernel
theorem dX10_offer_31 : decode cX10_offer 31 = .ok (.invokestatic 141, 3) := by decide +kernel
theorem dX10_offer_34 : decode cX10_offer 34 = .ok (.ifCond .eq 24, 3) := by decide +kernel
theorem dX10_offer_37 : decode cX10_offer 37 = .ok (.iload 4, 2) := by decide +kernel
theorem dX10_offer_39 : decode cX10_offer 39 = .ok (.aload_n 0, 1) := by decide +kernel
theorem dX10_offer_40 : decode cX10_offer 40 = .ok (.getfield 81, 3) := by decide +kernel
theorem dX10_offer_43 : decode cX10_offer 43 = .ok (.if_icmp .lt 15, 3) := by decide +kernel
theorem dX10_offer_46 : decode cX10_offer 46 = .ok (.aload_n 0, 1) := by decide +kernel
theorem dX10_offer_47 : decode cX10_offer 47 = .ok (.getfield 77, 3) := by decide +kernel
theorem dX10_offer_50 : decode cX10_offer 50 = .ok (.iload 5, 2) := by decide +kernel
theorem dX10_offer_52 : decode cX10_offer 52 = .ok (.invokevirtual 191, 3) := by decide +kernel
theorem dX10_offer_55 : decode cX10_offer 55 = .ok (.ifCond .eq 5, 3) := by decide +kernel
theorem dX10_offer_58 : decode cX10_offer 58 = .ok (.iconst (-1), 1) := by decide +kernel
theorem dX10_offer_59 : decode cX10_offer 59 = .ok (.ireturn, 1) := by decide +kernel
theorem dX10_offer_60 : decode cX10_offer 60 = .ok (.aload_n 0, 1) := by decide +kernel
theorem dX10_offer_61 : decode cX10_offer 61 = .ok (.getfield 77, 3) := by decide +kernel
theorem dX10_offer_64 : decode cX10_offer 64 = .ok (.aload_n 0, 1) := by decide +kernel
theorem dX10_offer_65 : decode cX10_offer 65 = .ok (.getfield 56, 3) := by decide +kernel
theorem dX10_offer_68 : decode cX10_offer 68 = .ok (.iload 5, 2) := by decide +kernel
theorem dX10_offer_70 : decode cX10_offer 70 = .ok (.invokevirtual 194, 3) := by decide +kernel
theorem dX10_offer_73 : decode cX10_offer 73 = .ok (.iload_n 1, 1) := by decide +kernel
theorem dX10_offer_74 : decode cX10_offer 74 = .ok (.iload 5, 2) := by decide +kernel
theorem dX10_offer_76 : decode cX10_offer 76 = .ok (.iload_n 3, 1) := by decide +kernel
theorem dX10_offer_77 : decode cX10_offer 77 = .ok (.iload 4, 2) := by decide +kernel
theorem dX10_offer_79 : decode cX10_offer 79 = .ok (.invokevirtual 197, 3) := by decide +kernel
theorem dX10_offer_82 : decode cX10_offer 82 = .ok (.ireturn, 1) := by decide +kernel
theorem dX10_take_0 : decode cX10_take 0 = .ok (.iload_n 2, 1) := by decide +kernel
theorem dX10_take_1 : decode cX10_take 1 = .ok (.iconst 0, 1) := by decide +kernel
theorem dX10_take_2 : decode cX10_take 2 = .ok (.bipush 99, 2) := by decide +kernel
theorem dX10_take_4 : decode cX10_take 4 = .ok (.invokestatic 125, 3) := by decide +kernel
theorem dX10_take_7 : decode cX10_take 7 = .ok (.ifCond .eq 14, 3) := by decide +kernel
theorem dX10_take_10 : decode cX10_take 10 = .ok (.aload_n 0, 1) := by decide +kernel
theorem dX10_take_11 : decode cX10_take 11 = .ok (.getfield 77, 3) := by decide +kernel
theorem dX10_take_14 : decode cX10_take 14 = .ok (.iload_n 1, 1) := by decide +kernel
theorem dX10_take_15 : decode cX10_take 15 = .ok (.invokevirtual 200, 3) := by decide +kernel
theorem dX10_take_18 : decode cX10_take 18 = .ok (.ifCond .eq 5, 3) := by decide +kernel
theorem dX10_take_21 : decode cX10_take 21 = .ok (.iconst 0, 1) := by decide +kernel
theorem dX10_take_22 : decode cX10_take 22 = .ok (.ireturn, 1) := by decide +kernel
theorem dX10_take_23 : decode cX10_take 23 = .ok (.aload_n 0, 1) := by decide +kernel
theorem dX10_take_24 : decode cX10_take 24 = .ok (.getfield 77, 3) := by decide +kernel
theorem dX10_take_27 : decode cX10_take 27 = .ok (.iload_n 1, 1) := by decide +kernel
theorem dX10_take_28 : decode cX10_take 28 = .ok (.iload_n 2, 1) := by decide +kernel
theorem dX10_take_29 : decode cX10_take 29 = .ok (.invokevirtual 203, 3) := by decide +kernel
theorem dX10_take_32 : decode cX10_take 32 = .ok (.iconst 1, 1) := by decide +kernel
theorem dX10_take_33 : decode cX10_take 33 = .ok (.ireturn, 1) := by decide +kernel
theorem dX10_told_0 : decode cX10_told 0 = .ok (.iload_n 2, 1) := by decide +kernel
theorem dX10_told_1 : decode cX10_told 1 = .ok (.tableswitch 93 0 5 #[39, 48, 57, 66, 75, 84], 39) := by decide +kernel
theorem dX10_told_40 : decode cX10_told 40 = .ok (.aload_n 0, 1) := by decide +kernel
theorem dX10_told_41 : decode cX10_told 41 = .ok (.getfield 77, 3) := by decide +kernel
theorem dX10_told_44 : decode cX10_told 44 = .ok (.iload_n 1, 1) := by decide +kernel
theorem dX10_told_45 : decode cX10_told 45 = .ok (.invokevirtual 200, 3) := by decide +kernel
theorem dX10_told_48 : decode cX10_told 48 = .ok (.ireturn, 1) := by decide +kernel
theorem dX10_told_49 : decode cX10_told 49 = .ok (.aload_n 0, 1) := by decide +kernel
theorem dX10_told_50 : decode cX10_told 50 = .ok (.getfield 77, 3) := by decide +kernel
theorem dX10_told_53 : decode cX10_told 53 = .ok (.iload_n 1, 1) := by decide +kernel
theorem dX10_told_54 : decode cX10_told 54 = .ok (.invokevirtual 206, 3) := by decide +kernel
theorem dX10_told_57 : decode cX10_told 57 = .ok (.ireturn, 1) := by decide +kernel
theorem dX10_told_58 : decode cX10_told 58 = .ok (.aload_n 0, 1) := by decide +kernel
theorem dX10_told_59 : decode cX10_told 59 = .ok (.getfield 77, 3) := by decide +kernel
theorem dX10_told_62 : decode cX10_told 62 = .ok (.iload_n 1, 1) := by decide +kernel
theorem dX10_told_63 : decode cX10_told 63 = .ok (.invokevirtual 209, 3) := by decide +kernel
theorem dX10_told_66 : decode cX10_told 66 = .ok (.ireturn, 1) := by decide +kernel
theorem dX10_told_67 : decode cX10_told 67 = .ok (.aload_n 0, 1) := by decide +kernel
theorem dX10_told_68 : decode cX10_told 68 = .ok (.getfield 77, 3) := by decide +kernel
theorem dX10_told_71 : decode cX10_told 71 = .ok (.iload_n 1, 1) := by decide +kernel
theorem dX10_told_72 : decode cX10_told 72 = .ok (.invokevirtual 212, 3) := by decide +kernel
theorem dX10_told_75 : decode cX10_told 75 = .ok (.ireturn, 1) := by decide +kernel
theorem dX10_told_76 : decode cX10_told 76 = .ok (.aload_n 0, 1) := by decide +kernel
theorem dX10_told_77 : decode cX10_told 77 = .ok (.getfield 77, 3) := by decide +kernel
theorem dX10_told_80 : decode cX10_told 80 = .ok (.iload_n 1, 1) := by decide +kernel
theorem dX10_told_81 : decode cX10_told 81 = .ok (.invokevirtual 215, 3) := by decide +kernel
theorem dX10_told_84 : decode cX10_told 84 = .ok (.ireturn, 1) := by decide +kernel
theorem dX10_told_85 : decode cX10_told 85 = .ok (.aload_n 0, 1) := by decide +kernel
theorem dX10_told_86 : decode cX10_told 86 = .ok (.getfield 77, 3) := by decide +kernel
theorem dX10_told_89 : decode cX10_told 89 = .ok (.iload_n 1, 1) := by decide +kernel
theorem dX10_told_90 : decode cX10_told 90 = .ok (.invokevirtual 216, 3) := by decide +kernel
theorem dX10_told_93 : decode cX10_told 93 = .ok (.ireturn, 1) := by decide +kernel
theorem dX10_told_94 : decode cX10_told 94 = .ok (.iconst (-1), 1) := by decide +kernel
theorem dX10_told_95 : decode cX10_told 95 = .ok (.ireturn, 1) := by decide +kernel
theorem dX10_bill_0 : decode cX10_bill 0 = .ok (.aload_n 0, 1) := by decide +kernel
theorem dX10_bill_1 : decode cX10_bill 1 = .ok (.getfield 56, 3) := by decide +kernel
theorem dX10_bill_4 : decode cX10_bill 4 = .ok (.iload_n 1, 1) := by decide +kernel
theorem dX10_bill_5 : decode cX10_bill 5 = .ok (.invokevirtual 175, 3) := by decide +kernel
theorem dX10_bill_8 : decode cX10_bill 8 = .ok (.istore_n 2, 1) := by decide +kernel
theorem dX10_bill_9 : decode cX10_bill 9 = .ok (.iload_n 2, 1) := by decide +kernel
theorem dX10_bill_10 : decode cX10_bill 10 = .ok (.iconst (-1), 1) := by decide +kernel
theorem dX10_bill_11 : decode cX10_bill 11 = .ok (.if_icmp .ne 7, 3) := by decide +kernel
theorem dX10_bill_14 : decode cX10_bill 14 = .ok (.ldc2_w 219, 3) := by decide +kernel
theorem dX10_bill_17 : decode cX10_bill 17 = .ok (.lreturn, 1) := by decide +kernel
theorem dX10_bill_18 : decode cX10_bill 18 = .ok (.aload_n 0, 1) := by decide +kernel
theorem dX10_bill_19 : decode cX10_bill 19 = .ok (.getfield 56, 3) := by decide +kernel
theorem dX10_bill_22 : decode cX10_bill 22 = .ok (.iload_n 1, 1) := by decide +kernel
theorem dX10_bill_23 : decode cX10_bill 23 = .ok (.invokevirtual 221, 3) := by decide +kernel
theorem dX10_bill_26 : decode cX10_bill 26 = .ok (.istore_n 3, 1) := by decide +kernel
theorem dX10_bill_27 : decode cX10_bill 27 = .ok (.aload_n 0, 1) := by decide +kernel
theorem dX10_bill_28 : decode cX10_bill 28 = .ok (.getfield 56, 3) := by decide +kernel
theorem dX10_bill_31 : decode cX10_bill 31 = .ok (.iload_n 1, 1) := by decide +kernel
theorem dX10_bill_32 : decode cX10_bill 32 = .ok (.invokevirtual 224, 3) := by decide +kernel
theorem dX10_bill_35 : decode cX10_bill 35 = .ok (.ifCond .eq 27, 3) := by decide +kernel
theorem dX10_bill_38 : decode cX10_bill 38 = .ok (.aload_n 0, 1) := by decide +kernel
theorem dX10_bill_39 : decode cX10_bill 39 = .ok (.getfield 56, 3) := by decide +kernel
theorem dX10_bill_42 : decode cX10_bill 42 = .ok (.iload_n 1, 1) := by decide +kernel
theorem dX10_bill_43 : decode cX10_bill 43 = .ok (.invokevirtual 227, 3) := by decide +kernel
theorem dX10_bill_46 : decode cX10_bill 46 = .ok (.istore 4, 2) := by decide +kernel
theorem dX10_bill_48 : decode cX10_bill 48 = .ok (.iload 4, 2) := by decide +kernel
theorem dX10_bill_50 : decode cX10_bill 50 = .ok (.ifCond .ne 7, 3) := by decide +kernel
theorem dX10_bill_53 : decode cX10_bill 53 = .ok (.ldc2_w 219, 3) := by decide +kernel
theorem dX10_bill_56 : decode cX10_bill 56 = .ok (.lreturn, 1) := by decide +kernel
theorem dX10_bill_57 : decode cX10_bill 57 = .ok (.iload_n 3, 1) := by decide +kernel
theorem dX10_bill_58 : decode cX10_bill 58 = .ok (.iload 4, 2) := by decide +kernel
theorem dX10_bill_60 : decode cX10_bill 60 = .ok (.iadd, 1) := by decide +kernel
theorem dX10_bill_61 : decode cX10_bill 61 = .ok (.istore_n 3, 1) := by decide +kernel
theorem dX10_bill_62 : decode cX10_bill 62 = .ok (.aload_n 0, 1) := by decide +kernel
theorem dX10_bill_63 : decode cX10_bill 63 = .ok (.getfield 33, 3) := by decide +kernel
theorem dX10_bill_66 : decode cX10_bill 66 = .ok (.iload_n 2, 1) := by decide +kernel
theorem dX10_bill_67 : decode cX10_bill 67 = .ok (.invokevirtual 230, 3) := by decide +kernel
theorem dX10_bill_70 : decode cX10_bill 70 = .ok (.i2l, 1) := by decide +kernel
theorem dX10_bill_71 : decode cX10_bill 71 = .ok (.iload_n 3, 1) := by decide +kernel
theorem dX10_bill_72 : decode cX10_bill 72 = .ok (.i2l, 1) := by decide +kernel
theorem dX10_bill_73 : decode cX10_bill 73 = .ok (.lmul, 1) := by decide +kernel
theorem dX10_bill_74 : decode cX10_bill 74 = .ok (.lstore 4, 2) := by decide +kernel
theorem dX10_bill_76 : decode cX10_bill 76 = .ok (.lconst 0, 1) := by decide +kernel
theorem dX10_bill_77 : decode cX10_bill 77 = .ok (.lload 4, 2) := by decide +kernel
theorem dX10_bill_79 : decode cX10_bill 79 = .ok (.aload_n 0, 1) := by decide +kernel
theorem dX10_bill_80 : decode cX10_bill 80 = .ok (.getfield 77, 3) := by decide +kernel
theorem dX10_bill_83 : decode cX10_bill 83 = .ok (.iload_n 1, 1) := by decide +kernel
theorem dX10_bill_84 : decode cX10_bill 84 = .ok (.invokevirtual 233, 3) := by decide +kernel
theorem dX10_bill_87 : decode cX10_bill 87 = .ok (.iconst 2, 1) := by decide +kernel
theorem dX10_bill_88 : decode cX10_bill 88 = .ok (.idiv, 1) := by decide +kernel
theorem dX10_bill_89 : decode cX10_bill 89 = .ok (.i2l, 1) := by decide +kernel
theorem dX10_bill_90 : decode cX10_bill 90 = .ok (.lsub, 1) := by decide +kernel
theorem dX10_bill_91 : decode cX10_bill 91 = .ok (.invokestatic 236, 3) := by decide +kernel
theorem dX10_bill_94 : decode cX10_bill 94 = .ok (.lreturn, 1) := by decide +kernel
theorem dX10_look_0 : decode cX10_look 0 = .ok (.aload_n 0, 1) := by decide +kernel
theorem dX10_look_1 : decode cX10_look 1 = .ok (.getfield 40, 3) := by decide +kernel
theorem dX10_look_4 : decode cX10_look 4 = .ok (.iload_n 1, 1) := by decide +kernel
theorem dX10_look_5 : decode cX10_look 5 = .ok (.invokevirtual 242, 3) := by decide +kernel
theorem dX10_look_8 : decode cX10_look 8 = .ok (.ifCond .ne 5, 3) := by decide +kernel
theorem dX10_look_11 : decode cX10_look 11 = .ok (.iconst (-1), 1) := by decide +kernel
theorem dX10_look_12 : decode cX10_look 12 = .ok (.ireturn, 1) := by decide +kernel
theorem dX10_look_13 : decode cX10_look 13 = .ok (.iload_n 2, 1) := by decide +kernel
theorem dX10_look_14 : decode cX10_look 14 = .ok (.tableswitch 100 0 5 #[38, 47, 56, 65, 74, 91], 38) := by decide +kernel
theorem dX10_look_52 : decode cX10_look 52 = .ok (.aload_n 0, 1) := by decide +kernel
theorem dX10_look_53 : decode cX10_look 53 = .ok (.getfield 40, 3) := by decide +kernel
theorem dX10_look_56 : decode cX10_look 56 = .ok (.iload_n 1, 1) := by decide +kernel
theorem dX10_look_57 : decode cX10_look 57 = .ok (.invokevirtual 245, 3) := by decide +kernel
theorem dX10_look_60 : decode cX10_look 60 = .ok (.ireturn, 1) := by decide +kernel
theorem dX10_look_61 : decode cX10_look 61 = .ok (.aload_n 0, 1) := by decide +kernel
theorem dX10_look_62 : decode cX10_look 62 = .ok (.getfield 40, 3) := by decide +kernel
theorem dX10_look_65 : decode cX10_look 65 = .ok (.iload_n 1, 1) := by decide +kernel
theorem dX10_look_66 : decode cX10_look 66 = .ok (.invokevirtual 248, 3) := by decide +kernel
theorem dX10_look_69 : decode cX10_look 69 = .ok (.ireturn, 1) := by decide +kernel
theorem dX10_look_70 : decode cX10_look 70 = .ok (.aload_n 0, 1) := by decide +kernel
theorem dX10_look_71 : decode cX10_look 71 = .ok (.getfield 40, 3) := by decide +kernel
theorem dX10_look_74 : decode cX10_look 74 = .ok (.iload_n 1, 1) := by decide +kernel
theorem dX10_look_75 : decode cX10_look 75 = .ok (.invokevirtual 251, 3) := by decide +kernel
theorem dX10_look_78 : decode cX10_look 78 = .ok (.ireturn, 1) := by decide +kernel
theorem dX10_look_79 : decode cX10_look 79 = .ok (.aload_n 0, 1) := by decide +kernel
theorem dX10_look_80 : decode cX10_look 80 = .ok (.getfield 40, 3) := by decide +kernel
theorem dX10_look_83 : decode cX10_look 83 = .ok (.iload_n 1, 1) := by decide +kernel
theorem dX10_look_84 : decode cX10_look 84 = .ok (.invokevirtual 254, 3) := by decide +kernel
theorem dX10_look_87 : decode cX10_look 87 = .ok (.ireturn, 1) := by decide +kernel
theorem dX10_look_88 : decode cX10_look 88 = .ok (.aload_n 0, 1) := by decide +kernel
theorem dX10_look_89 : decode cX10_look 89 = .ok (.getfield 40, 3) := by decide +kernel
theorem dX10_look_92 : decode cX10_look 92 = .ok (.iload_n 1, 1) := by decide +kernel
theorem dX10_look_93 : decode cX10_look 93 = .ok (.invokevirtual 145, 3) := by decide +kernel
theorem dX10_look_96 : decode cX10_look 96 = .ok (.ifCond .eq 7, 3) := by decide +kernel
theorem dX10_look_99 : decode cX10_look 99 = .ok (.iconst 0, 1) := by decide +kernel
theorem dX10_look_100 : decode cX10_look 100 = .ok (.goto 4, 3) := by decide +kernel
theorem dX10_look_103 : decode cX10_look 103 = .ok (.iconst 1, 1) := by decide +kernel
theorem dX10_look_104 : decode cX10_look 104 = .ok (.ireturn, 1) := by decide +kernel
theorem dX10_look_105 : decode cX10_look 105 = .ok (.aload_n 0, 1) := by decide +kernel
theorem dX10_look_106 : decode cX10_look 106 = .ok (.getfield 56, 3) := by decide +kernel
theorem dX10_look_109 : decode cX10_look 109 = .ok (.iload_n 1, 1) := by decide +kernel
theorem dX10_look_110 : decode cX10_look 110 = .ok (.invokevirtual 221, 3) := by decide +kernel
theorem dX10_look_113 : decode cX10_look 113 = .ok (.ireturn, 1) := by decide +kernel
theorem dX10_look_114 : decode cX10_look 114 = .ok (.iconst (-1), 1) := by decide +kernel
theorem dX10_look_115 : decode cX10_look 115 = .ok (.ireturn, 1) := by decide +kernel
theorem dX10_count_0 : decode cX10_count 0 = .ok (.iload_n 1, 1) := by decide +kernel
theorem dX10_count_1 : decode cX10_count 1 = .ok (.tableswitch 120 0 8 #[51, 59, 67, 75, 83, 91, 99, 107, 112], 51) := by decide +kernel
theorem dX10_count_52 : decode cX10_count 52 = .ok (.aload_n 0, 1) := by decide +kernel
theorem dX10_count_53 : decode cX10_count 53 = .ok (.getfield 33, 3) := by decide +kernel
theorem dX10_count_56 : decode cX10_count 56 = .ok (.invokevirtual 257, 3) := by decide +kernel
theorem dX10_count_59 : decode cX10_count 59 = .ok (.ireturn, 1) := by decide +kernel
theorem dX10_count_60 : decode cX10_count 60 = .ok (.aload_n 0, 1) := by decide +kernel
theorem dX10_count_61 : decode cX10_count 61 = .ok (.getfield 40, 3) := by decide +kernel
theorem dX10_count_64 : decode cX10_count 64 = .ok (.invokevirtual 260, 3) := by decide +kernel
theorem dX10_count_67 : decode cX10_count 67 = .ok (.ireturn, 1) := by decide +kernel
theorem dX10_count_68 : decode cX10_count 68 = .ok (.aload_n 0, 1) := by decide +kernel
theorem dX10_count_69 : decode cX10_count 69 = .ok (.getfield 40, 3) := by decide +kernel
theorem dX10_count_72 : decode cX10_count 72 = .ok (.invokevirtual 261, 3) := by decide +kernel
theorem dX10_count_75 : decode cX10_count 75 = .ok (.ireturn, 1) := by decide +kernel
theorem dX10_count_76 : decode cX10_count 76 = .ok (.aload_n 0, 1) := by decide +kernel
theorem dX10_count_77 : decode cX10_count 77 = .ok (.getfield 56, 3) := by decide +kernel
theorem dX10_count_80 : decode cX10_count 80 = .ok (.invokevirtual 169, 3) := by decide +kernel
theorem dX10_count_83 : decode cX10_count 83 = .ok (.ireturn, 1) := by decide +kernel
theorem dX10_count_84 : decode cX10_count 84 = .ok (.aload_n 0, 1) := by decide +kernel
theorem dX10_count_85 : decode cX10_count 85 = .ok (.getfield 56, 3) := by decide +kernel
theorem dX10_count_88 : decode cX10_count 88 = .ok (.invokevirtual 264, 3) := by decide +kernel
theorem dX10_count_91 : decode cX10_count 91 = .ok (.ireturn, 1) := by decide +kernel
theorem dX10_count_92 : decode cX10_count 92 = .ok (.aload_n 0, 1) := by decide +kernel
theorem dX10_count_93 : decode cX10_count 93 = .ok (.getfield 47, 3) := by decide +kernel
theorem dX10_count_96 : decode cX10_count 96 = .ok (.invokevirtual 267, 3) := by decide +kernel
theorem dX10_count_99 : decode cX10_count 99 = .ok (.ireturn, 1) := by decide +kernel
theorem dX10_count_100 : decode cX10_count 100 = .ok (.aload_n 0, 1) := by decide +kernel
theorem dX10_count_101 : decode cX10_count 101 = .ok (.getfield 77, 3) := by decide +kernel
theorem dX10_count_104 : decode cX10_count 104 = .ok (.invokevirtual 268, 3) := by decide +kernel
theorem dX10_count_107 : decode cX10_count 107 = .ok (.ireturn, 1) := by decide +kernel
theorem dX10_count_108 : decode cX10_count 108 = .ok (.aload_n 0, 1) := by decide +kernel
theorem dX10_count_109 : decode cX10_count 109 = .ok (.getfield 81, 3) := by decide +kernel
theorem dX10_count_112 : decode cX10_count 112 = .ok (.ireturn, 1) := by decide +kernel
theorem dX10_count_113 : decode cX10_count 113 = .ok (.aload_n 0, 1) := by decide +kernel
theorem dX10_count_114 : decode cX10_count 114 = .ok (.getfield 12, 3) := by decide +kernel
theorem dX10_count_117 : decode cX10_count 117 = .ok (.invokevirtual 93, 3) := by decide +kernel
theorem dX10_count_120 : decode cX10_count 120 = .ok (.ireturn, 1) := by decide +kernel
theorem dX10_count_121 : decode cX10_count 121 = .ok (.iconst (-1), 1) := by decide +kernel
theorem dX10_count_122 : decode cX10_count 122 = .ok (.ireturn, 1) := by decide +kernel
theorem dX10_flownMove_0 : decode cX10_flownMove 0 = .ok (.iload_n 2, 1) := by decide +kernel
theorem dX10_flownMove_1 : decode cX10_flownMove 1 = .ok (.tableswitch 82 0 4 #[35, 37, 46, 55, 64], 35) := by decide +kernel
theorem dX10_flownMove_36 : decode cX10_flownMove 36 = .ok (.iload_n 1, 1) := by decide +kernel
theorem dX10_flownMove_37 : decode cX10_flownMove 37 = .ok (.ireturn, 1) := by decide +kernel
theorem dX10_flownMove_38 : decode cX10_flownMove 38 = .ok (.aload_n 0, 1) := by decide +kernel
theorem dX10_flownMove_39 : decode cX10_flownMove 39 = .ok (.getfield 40, 3) := by decide +kernel
theorem dX10_flownMove_42 : decode cX10_flownMove 42 = .ok (.iload_n 1, 1) := by decide +kernel
theorem dX10_flownMove_43 : decode cX10_flownMove 43 = .ok (.invokevirtual 245, 3) := by decide +kernel
theorem dX10_flownMove_46 : decode cX10_flownMove 46 = .ok (.ireturn, 1) := by decide +kernel
theorem dX10_flownMove_47 : decode cX10_flownMove 47 = .ok (.aload_n 0, 1) := by decide +kernel
theorem dX10_flownMove_48 : decode cX10_flownMove 48 = .ok (.getfield 40, 3) := by decide +kernel
theorem dX10_flownMove_51 : decode cX10_flownMove 51 = .ok (.iload_n 1, 1) := by decide +kernel
theorem dX10_flownMove_52 : decode cX10_flownMove 52 = .ok (.invokevirtual 248, 3) := by decide +kernel
theorem dX10_flownMove_55 : decode cX10_flownMove 55 = .ok (.ireturn, 1) := by decide +kernel
theorem dX10_flownMove_56 : decode cX10_flownMove 56 = .ok (.aload_n 0, 1) := by decide +kernel
theorem dX10_flownMove_57 : decode cX10_flownMove 57 = .ok (.getfield 40, 3) := by decide +kernel
theorem dX10_flownMove_60 : decode cX10_flownMove 60 = .ok (.iload_n 1, 1) := by decide +kernel
theorem dX10_flownMove_61 : decode cX10_flownMove 61 = .ok (.invokevirtual 251, 3) := by decide +kernel
theorem dX10_flownMove_64 : decode cX10_flownMove 64 = .ok (.ireturn, 1) := by decide +kernel
theorem dX10_flownMove_65 : decode cX10_flownMove 65 = .ok (.aload_n 0, 1) := by decide +kernel
theorem dX10_flownMove_66 : decode cX10_flownMove 66 = .ok (.getfield 40, 3) := by decide +kernel
theorem dX10_flownMove_69 : decode cX10_flownMove 69 = .ok (.iload_n 1, 1) := by decide +kernel
theorem dX10_flownMove_70 : decode cX10_flownMove 70 = .ok (.invokevirtual 251, 3) := by decide +kernel
theorem dX10_flownMove_73 : decode cX10_flownMove 73 = .ok (.aload_n 0, 1) := by decide +kernel
theorem dX10_flownMove_74 : decode cX10_flownMove 74 = .ok (.getfield 56, 3) := by decide +kernel
theorem dX10_flownMove_77 : decode cX10_flownMove 77 = .ok (.iload_n 1, 1) := by decide +kernel
theorem dX10_flownMove_78 : decode cX10_flownMove 78 = .ok (.invokevirtual 221, 3) := by decide +kernel
theorem dX10_flownMove_81 : decode cX10_flownMove 81 = .ok (.iadd, 1) := by decide +kernel
theorem dX10_flownMove_82 : decode cX10_flownMove 82 = .ok (.ireturn, 1) := by decide +kernel
theorem dX10_flownMove_83 : decode cX10_flownMove 83 = .ok (.iconst (-1), 1) := by decide +kernel
theorem dX10_flownMove_84 : decode cX10_flownMove 84 = .ok (.ireturn, 1) := by decide +kernel
theorem dX10_emptyMove_0 : decode cX10_emptyMove 0 = .ok (.iload_n 2, 1) := by decide +kernel
theorem dX10_emptyMove_1 : decode cX10_emptyMove 1 = .ok (.iconst 1, 1) := by decide +kernel
theorem dX10_emptyMove_2 : decode cX10_emptyMove 2 = .ok (.if_icmp .ne 12, 3) := by decide +kernel
theorem dX10_emptyMove_5 : decode cX10_emptyMove 5 = .ok (.aload_n 0, 1) := by decide +kernel
theorem dX10_emptyMove_6 : decode cX10_emptyMove 6 = .ok (.getfield 56, 3) := by decide +kernel
theorem dX10_emptyMove_9 : decode cX10_emptyMove 9 = .ok (.iload_n 1, 1) := by decide +kernel
theorem dX10_emptyMove_10 : decode cX10_emptyMove 10 = .ok (.invokevirtual 194, 3) := by decide +kernel
theorem dX10_emptyMove_13 : decode cX10_emptyMove 13 = .ok (.ireturn, 1) := by decide +kernel
theorem dX10_emptyMove_14 : decode cX10_emptyMove 14 = .ok (.iload_n 2, 1) := by decide +kernel
theorem dX10_emptyMove_15 : decode cX10_emptyMove 15 = .ok (.iconst 2, 1) := by decide +kernel
theorem dX10_emptyMove_16 : decode cX10_emptyMove 16 = .ok (.if_icmp .ne 12, 3) := by decide +kernel
theorem dX10_emptyMove_19 : decode cX10_emptyMove 19 = .ok (.aload_n 0, 1) := by decide +kernel
theorem dX10_emptyMove_20 : decode cX10_emptyMove 20 = .ok (.getfield 40, 3) := by decide +kernel
theorem dX10_emptyMove_23 : decode cX10_emptyMove 23 = .ok (.iload_n 1, 1) := by decide +kernel
theorem dX10_emptyMove_24 : decode cX10_emptyMove 24 = .ok (.invokevirtual 245, 3) := by decide +kernel
theorem dX10_emptyMove_27 : decode cX10_emptyMove 27 = .ok (.ireturn, 1) := by decide +kernel
theorem dX10_emptyMove_28 : decode cX10_emptyMove 28 = .ok (.aload_n 0, 1) := by decide +kernel
theorem dX10_emptyMove_29 : decode cX10_emptyMove 29 = .ok (.getfield 56, 3) := by decide +kernel
theorem dX10_emptyMove_32 : decode cX10_emptyMove 32 = .ok (.iload_n 1, 1) := by decide +kernel
theorem dX10_emptyMove_33 : decode cX10_emptyMove 33 = .ok (.invokevirtual 227, 3) := by decide +kernel
theorem dX10_emptyMove_36 : decode cX10_emptyMove 36 = .ok (.istore_n 3, 1) := by decide +kernel
theorem dX10_emptyMove_37 : decode cX10_emptyMove 37 = .ok (.iload_n 3, 1) := by decide +kernel
theorem dX10_emptyMove_38 : decode cX10_emptyMove 38 = .ok (.ifCond .eq 13, 3) := by decide +kernel
theorem dX10_emptyMove_41 : decode cX10_emptyMove 41 = .ok (.iload_n 2, 1) := by decide +kernel
theorem dX10_emptyMove_42 : decode cX10_emptyMove 42 = .ok (.iconst 3, 1) := by decide +kernel
theorem dX10_emptyMove_43 : decode cX10_emptyMove 43 = .ok (.if_icmp .eq 10, 3) := by decide +kernel
theorem dX10_emptyMove_46 : decode cX10_emptyMove 46 = .ok (.iload_n 2, 1) := by decide +kernel
theorem dX10_emptyMove_47 : decode cX10_emptyMove 47 = .ok (.iconst 4, 1) := by decide +kernel
theorem dX10_emptyMove_48 : decode cX10_emptyMove 48 = .ok (.if_icmp .eq 5, 3) := by decide +kernel
theorem dX10_emptyMove_51 : decode cX10_emptyMove 51 = .ok (.iconst (-1), 1) := by decide +kernel
theorem dX10_emptyMove_52 : decode cX10_emptyMove 52 = .ok (.ireturn, 1) := by decide +kernel
theorem dX10_emptyMove_53 : decode cX10_emptyMove 53 = .ok (.aload_n 0, 1) := by decide +kernel
theorem dX10_emptyMove_54 : decode cX10_emptyMove 54 = .ok (.getfield 40, 3) := by decide +kernel
theorem dX10_emptyMove_57 : decode cX10_emptyMove 57 = .ok (.iload_n 1, 1) := by decide +kernel
theorem dX10_emptyMove_58 : decode cX10_emptyMove 58 = .ok (.invokevirtual 251, 3) := by decide +kernel
theorem dX10_emptyMove_61 : decode cX10_emptyMove 61 = .ok (.aload_n 0, 1) := by decide +kernel
theorem dX10_emptyMove_62 : decode cX10_emptyMove 62 = .ok (.getfield 33, 3) := by decide +kernel
theorem dX10_emptyMove_65 : decode cX10_emptyMove 65 = .ok (.aload_n 0, 1) := by decide +kernel
theorem dX10_emptyMove_66 : decode cX10_emptyMove 66 = .ok (.getfield 56, 3) := by decide +kernel
theorem dX10_emptyMove_69 : decode cX10_emptyMove 69 = .ok (.iload_n 1, 1) := by decide +kernel
theorem dX10_emptyMove_70 : decode cX10_emptyMove 70 = .ok (.invokevirtual 175, 3) := by decide +kernel
theorem dX10_emptyMove_73 : decode cX10_emptyMove 73 = .ok (.invokevirtual 269, 3) := by decide +kernel
theorem dX10_emptyMove_76 : decode cX10_emptyMove 76 = .ok (.isub, 1) := by decide +kernel
theorem dX10_emptyMove_77 : decode cX10_emptyMove 77 = .ok (.istore 4, 2) := by decide +kernel
theorem dX10_emptyMove_79 : decode cX10_emptyMove 79 = .ok (.iload_n 2, 1) := by decide +kernel
theorem dX10_emptyMove_80 : decode cX10_emptyMove 80 = .ok (.iconst 4, 1) := by decide +kernel
theorem dX10_emptyMove_81 : decode cX10_emptyMove 81 = .ok (.if_icmp .ne 8, 3) := by decide +kernel
theorem dX10_emptyMove_84 : decode cX10_emptyMove 84 = .ok (.iload 4, 2) := by decide +kernel
theorem dX10_emptyMove_86 : decode cX10_emptyMove 86 = .ok (.goto 7, 3) := by decide +kernel
theorem dX10_emptyMove_89 : decode cX10_emptyMove 89 = .ok (.iload 4, 2) := by decide +kernel
theorem dX10_emptyMove_91 : decode cX10_emptyMove 91 = .ok (.iload_n 3, 1) := by decide +kernel
theorem dX10_emptyMove_92 : decode cX10_emptyMove 92 = .ok (.isub, 1) := by decide +kernel
theorem dX10_emptyMove_93 : decode cX10_emptyMove 93 = .ok (.ireturn, 1) := by decide +kernel
theorem dX10_isWithin_0 : decode cX10_isWithin 0 = .ok (.iload_n 0, 1) := by decide +kernel
theorem dX10_isWithin_1 : decode cX10_isWithin 1 = .ok (.iload_n 1, 1) := by decide +kernel
theorem dX10_isWithin_2 : decode cX10_isWithin 2 = .ok (.if_icmp .lt 12, 3) := by decide +kernel
theorem dX10_isWithin_5 : decode cX10_isWithin 5 = .ok (.iload_n 0, 1) := by decide +kernel
theorem dX10_isWithin_6 : decode cX10_isWithin 6 = .ok (.iload_n 2, 1) := by decide +kernel
theorem dX10_isWithin_7 : decode cX10_isWithin 7 = .ok (.if_icmp .gt 7, 3) := by decide +kernel
theorem dX10_isWithin_10 : decode cX10_isWithin 10 = .ok (.iconst 1, 1) := by decide +kernel
theorem dX10_isWithin_11 : decode cX10_isWithin 11 = .ok (.goto 4, 3) := by decide +kernel
theorem dX10_isWithin_14 : decode cX10_isWithin 14 = .ok (.iconst 0, 1) := by decide +kernel
theorem dX10_isWithin_15 : decode cX10_isWithin 15 = .ok (.ireturn, 1) := by decide +kernel
theorem dX10_isField_0 : decode cX10_isField 0 = .ok (.iload_n 0, 1) := by decide +kernel
theorem dX10_isField_1 : decode cX10_isField 1 = .ok (.ifCond .lt 13, 3) := by decide +kernel
theorem dX10_isField_4 : decode cX10_isField 4 = .ok (.iload_n 0, 1) := by decide +kernel
theorem dX10_isField_5 : decode cX10_isField 5 = .ok (.bipush 8, 2) := by decide +kernel
theorem dX10_isField_7 : decode cX10_isField 7 = .ok (.if_icmp .ge 7, 3) := by decide +kernel
theorem dX10_isField_10 : decode cX10_isField 10 = .ok (.iconst 1, 1) := by decide +kernel
theorem dX10_isField_11 : decode cX10_isField 11 = .ok (.goto 4, 3) := by decide +kernel
theorem dX10_isField_14 : decode cX10_isField 14 = .ok (.iconst 0, 1) := by decide +kernel
theorem dX10_isField_15 : decode cX10_isField 15 = .ok (.ireturn, 1) := by decide +kernel
theorem dX10_isDay_0 : decode cX10_isDay 0 = .ok (.iload_n 0, 1) := by decide +kernel
theorem dX10_isDay_1 : decode cX10_isDay 1 = .ok (.ifCond .lt 13, 3) := by decide +kernel
theorem dX10_isDay_4 : decode cX10_isDay 4 = .ok (.iload_n 0, 1) := by decide +kernel
theorem dX10_isDay_5 : decode cX10_isDay 5 = .ok (.bipush 7, 2) := by decide +kernel
theorem dX10_isDay_7 : decode cX10_isDay 7 = .ok (.if_icmp .ge 7, 3) := by decide +kernel
theorem dX10_isDay_10 : decode cX10_isDay 10 = .ok (.iconst 1, 1) := by decide +kernel
theorem dX10_isDay_11 : decode cX10_isDay 11 = .ok (.goto 4, 3) := by decide +kernel
theorem dX10_isDay_14 : decode cX10_isDay 14 = .ok (.iconst 0, 1) := by decide +kernel
theorem dX10_isDay_15 : decode cX10_isDay 15 = .ok (.ireturn, 1) := by decide +kernel
theorem dX10_isMinute_0 : decode cX10_isMinute 0 = .ok (.iload_n 0, 1) := by decide +kernel
theorem dX10_isMinute_1 : decode cX10_isMinute 1 = .ok (.ifCond .lt 14, 3) := by decide +kernel
theorem dX10_isMinute_4 : decode cX10_isMinute 4 = .ok (.iload_n 0, 1) := by decide +kernel
theorem dX10_isMinute_5 : decode cX10_isMinute 5 = .ok (.sipush 10080, 3) := by decide +kernel
theorem dX10_isMinute_8 : decode cX10_isMinute 8 = .ok (.if_icmp .ge 7, 3) := by decide +kernel
theorem dX10_isMinute_11 : decode cX10_isMinute 11 = .ok (.iconst 1, 1) := by decide +kernel
theorem dX10_isMinute_12 : decode cX10_isMinute 12 = .ok (.goto 4, 3) := by decide +kernel
theorem dX10_isMinute_15 : decode cX10_isMinute 15 = .ok (.iconst 0, 1) := by decide +kernel
theorem dX10_isMinute_16 : decode cX10_isMinute 16 = .ok (.ireturn, 1) := by decide +kernel
theorem dX11_init_0 : decode cX11_init 0 = .ok (.aload_n 0, 1) := by decide +kernel
theorem dX11_init_1 : decode cX11_init 1 = .ok (.invokespecial 1, 3) := by decide +kernel
theorem dX11_init_4 : decode cX11_init 4 = .ok (.aload_n 0, 1) := by decide +kernel
theorem dX11_init_5 : decode cX11_init 5 = .ok (.bipush 40, 2) := by decide +kernel
theorem dX11_init_7 : decode cX11_init 7 = .ok (.newarray .byte, 2) := by decide +kernel
theorem dX11_init_9 : decode cX11_init 9 = .ok (.putfield 7, 3) := by decide +kernel
theorem dX11_init_12 : decode cX11_init 12 = .ok (.aload_n 0, 1) := by decide +kernel
theorem dX11_init_13 : decode cX11_init 13 = .ok (.bipush 7, 2) := by decide +kernel
theorem dX11_init_15 : decode cX11_init 15 = .ok (.newarray .boolean, 2) := by decide +kernel
theorem dX11_init_17 : decode cX11_init 17 = .ok (.putfield 13, 3) := by decide +kernel
theorem dX11_init_20 : decode cX11_init 20 = .ok (.aload_n 0, 1) := by decide +kernel
theorem dX11_init_21 : decode cX11_init 21 = .ok (.bipush 7, 2) := by decide +kernel
theorem dX11_init_23 : decode cX11_init 23 = .ok (.newarray .int, 2) := by decide +kernel
theorem dX11_init_25 : decode cX11_init 25 = .ok (.putfield 17, 3) := by decide +kernel
theorem dX11_init_28 : decode cX11_init 28 = .ok (.aload_n 0, 1) := by decide +kernel
theorem dX11_init_29 : decode cX11_init 29 = .ok (.bipush 7, 2) := by decide +kernel
theorem dX11_init_31 : decode cX11_init 31 = .ok (.newarray .int, 2) := by decide +kernel
theorem dX11_init_33 : decode cX11_init 33 = .ok (.putfield 21, 3) := by decide +kernel
theorem dX11_init_36 : decode cX11_init 36 = .ok (.aload_n 0, 1) := by decide +kernel
theorem dX11_init_37 : decode cX11_init 37 = .ok (.bipush 64, 2) := by decide +kernel
theorem dX11_init_39 : decode cX11_init 39 = .ok (.newarray .int, 2) := by decide +kernel
theorem dX11_init_41 : decode cX11_init 41 = .ok (.putfield 24, 3) := by decide +kernel
theorem dX11_init_44 : decode cX11_init 44 = .ok (.aload_n 0, 1) := by decide +kernel
theorem dX11_init_45 : decode cX11_init 45 = .ok (.iconst 4, 1) := by decide +kernel
theorem dX11_init_46 : decode cX11_init 46 = .ok (.newarray .int, 2) := by decide +kernel
theorem dX11_init_48 : decode cX11_init 48 = .ok (.putfield 27, 3) := by decide +kernel
theorem dX11_init_51 : decode cX11_init 51 = .ok (.aload_n 0, 1) := by decide +kernel
theorem dX11_init_52 : decode cX11_init 52 = .ok (.iconst 4, 1) := by decide +kernel
theorem dX11_init_53 : decode cX11_init 53 = .ok (.newarray .int, 2) := by decide +kernel
theorem dX11_init_55 : decode cX11_init 55 = .ok (.putfield 30, 3) := by decide +kernel
theorem dX11_init_58 : decode cX11_init 58 = .ok (.aload_n 0, 1) := by decide +kernel
theorem dX11_init_59 : decode cX11_init 59 = .ok (.iconst 4, 1) := by decide +kernel
theorem dX11_init_60 : decode cX11_init 60 = .ok (.newarray .int, 2) := by decide +kernel
theorem dX11_init_62 : decode cX11_init 62 = .ok (.putfield 33, 3) := by decide +kernel
theorem dX11_init_65 : decode cX11_init 65 = .ok (.aload_n 0, 1) := by decide +kernel
theorem dX11_init_66 : decode cX11_init 66 = .ok (.iconst 4, 1) := by decide +kernel
theorem dX11_init_67 : decode cX11_init 67 = .ok (.newarray .int, 2) := by decide +kernel
theorem dX11_init_69 : decode cX11_init 69 = .ok (.putfield 36, 3) := by decide +kernel
theorem dX11_init_72 : decode cX11_init 72 = .ok (.aload_n 0, 1) := by decide +kernel
theorem dX11_init_73 : decode cX11_init 73 = .ok (.bipush 20, 2) := by decide +kernel
theorem dX11_init_75 : decode cX11_init 75 = .ok (.newarray .int, 2) := by decide +kernel
theorem dX11_init_77 : decode cX11_init 77 = .ok (.putfield 39, 3) := by decide +kernel
theorem dX11_init_80 : decode cX11_init 80 = .ok (.aload_n 0, 1) := by decide +kernel
theorem dX11_init_81 : decode cX11_init 81 = .ok (.bipush 20, 2) := by decide +kernel
theorem dX11_init_83 : decode cX11_init 83 = .ok (.newarray .int, 2) := by decide +kernel
theorem dX11_init_85 : decode cX11_init 85 = .ok (.putfield 42, 3) := by decide +kernel
theorem dX11_init_88 : decode cX11_init 88 = .ok (.aload_n 0, 1) := by decide +kernel
theorem dX11_init_89 : decode cX11_init 89 = .ok (.bipush 20, 2) := by decide +kernel
theorem dX11_init_91 : decode cX11_init 91 = .ok (.newarray .int, 2) := by decide +kernel
theorem dX11_init_93 : decode cX11_init 93 = .ok (.putfield 45, 3) := by decide +kernel
theorem dX11_init_96 : decode cX11_init 96 = .ok (.aload_n 0, 1) := by decide +kernel
theorem dX11_init_97 : decode cX11_init 97 = .ok (.bipush 20, 2) := by decide +kernel
theorem dX11_init_99 : decode cX11_init 99 = .ok (.newarray .int, 2) := by decide +kernel
theorem dX11_init_101 : decode cX11_init 101 = .ok (.putfield 48, 3) := by decide +kernel
theorem dX11_init_104 : decode cX11_init 104 = .ok (.aload_n 0, 1) := by decide +kernel
theorem dX11_init_105 : decode cX11_init 105 = .ok (.bipush 20, 2) := by decide +kernel
theorem dX11_init_107 : decode cX11_init 107 = .ok (.newarray .boolean, 2) := by decide +kernel
theorem dX11_init_109 : decode cX11_init 109 = .ok (.putfield 51, 3) := by decide +kernel
theorem dX11_init_112 : decode cX11_init 112 = .ok (.aload_n 0, 1) := by decide +kernel
theorem dX11_init_113 : decode cX11_init 113 = .ok (.bipush 20, 2) := by decide +kernel
theorem dX11_init_115 : decode cX11_init 115 = .ok (.newarray .int, 2) := by decide +kernel
theorem dX11_init_117 : decode cX11_init 117 = .ok (.putfield 54, 3) := by decide +kernel
theorem dX11_init_120 : decode cX11_init 120 = .ok (.aload_n 0, 1) := by decide +kernel
theorem dX11_init_121 : decode cX11_init 121 = .ok (.bipush 20, 2) := by decide +kernel
theorem dX11_init_123 : decode cX11_init 123 = .ok (.newarray .int, 2) := by decide +kernel
theorem dX11_init_125 : decode cX11_init 125 = .ok (.putfield 57, 3) := by decide +kernel
theorem dX11_init_128 : decode cX11_init 128 = .ok (.aload_n 0, 1) := by decide +kernel
theorem dX11_init_129 : decode cX11_init 129 = .ok (.bipush 20, 2) := by decide +kernel
theorem dX11_init_131 : decode cX11_init 131 = .ok (.newarray .int, 2) := by decide +kernel
theorem dX11_init_133 : decode cX11_init 133 = .ok (.putfield 60, 3) := by decide +kernel
theorem dX11_init_136 : decode cX11_init 136 = .ok (.aload_n 0, 1) := by decide +kernel
theorem dX11_init_137 : decode cX11_init 137 = .ok (.bipush 20, 2) := by decide +kernel
theorem dX11_init_139 : decode cX11_init 139 = .ok (.newarray .int, 2) := by decide +kernel
theorem dX11_init_141 : decode cX11_init 141 = .ok (.putfield 63, 3) := by decide +kernel
theorem dX11_init_144 : decode cX11_init 144 = .ok (.aload_n 0, 1) := by decide +kernel
theorem dX11_init_145 : decode cX11_init 145 = .ok (.bipush 40, 2) := by decide +kernel
theorem dX11_init_147 : decode cX11_init 147 = .ok (.newarray .int, 2) := by decide +kernel
theorem dX11_init_149 : decode cX11_init 149 = .ok (.putfield 66, 3) := by decide +kernel
theorem dX11_init_152 : decode cX11_init 152 = .ok (.aload_n 0, 1) := by decide +kernel
theorem dX11_init_153 : decode cX11_init 153 = .ok (.bipush 40, 2) := by decide +kernel
theorem dX11_init_155 : decode cX11_init 155 = .ok (.newarray .int, 2) := by decide +kernel
theorem dX11_init_157 : decode cX11_init 157 = .ok (.putfield 69, 3) := by decide +kernel
theorem dX11_init_160 : decode cX11_init 160 = .ok (.aload_n 0, 1) := by decide +kernel
theorem dX11_init_161 : decode cX11_init 161 = .ok (.bipush 40, 2) := by decide +kernel
theorem dX11_init_163 : decode cX11_init 163 = .ok (.newarray .int, 2) := by decide +kernel
theorem dX11_init_165 : decode cX11_init 165 = .ok (.putfield 72, 3) := by decide +kernel
theorem dX11_init_168 : decode cX11_init 168 = .ok (.aload_n 0, 1) := by decide +kernel
theorem dX11_init_169 : decode cX11_init 169 = .ok (.bipush 40, 2) := by decide +kernel
theorem dX11_init_171 : decode cX11_init 171 = .ok (.newarray .int, 2) := by decide +kernel
theorem dX11_init_173 : decode cX11_init 173 = .ok (.putfield 75, 3) := by decide +kernel
theorem dX11_init_176 : decode cX11_init 176 = .ok (.aload_n 0, 1) := by decide +kernel
theorem dX11_init_177 : decode cX11_init 177 = .ok (.bipush 40, 2) := by decide +kernel
theorem dX11_init_179 : decode cX11_init 179 = .ok (.newarray .int, 2) := by decide +kernel
theorem dX11_init_181 : decode cX11_init 181 = .ok (.putfield 78, 3) := by decide +kernel
theorem dX11_init_184 : decode cX11_init 184 = .ok (.aload_n 0, 1) := by decide +kernel
theorem dX11_init_185 : decode cX11_init 185 = .ok (.bipush 40, 2) := by decide +kernel
theorem dX11_init_187 : decode cX11_init 187 = .ok (.newarray .int, 2) := by decide +kernel
theorem dX11_init_189 : decode cX11_init 189 = .ok (.putfield 81, 3) := by decide +kernel
theorem dX11_init_192 : decode cX11_init 192 = .ok (.aload_n 0, 1) := by decide +kernel
end
section
theorem dX11_init_193 : decode cX11_init 193 = .ok (.bipush 40, 2) := by decide +kernel
theorem dX11_init_195 : decode cX11_init 195 = .ok (.newarray .int, 2) := by decide +kernel
theorem dX11_init_197 : decode cX11_init 197 = .ok (.putfield 84, 3) := by decide +kernel
theorem dX11_init_200 : decode cX11_init 200 = .ok (.aload_n 0, 1) := by decide +kernel
theorem dX11_init_201 : decode cX11_init 201 = .ok (.bipush 40, 2) := by decide +kernel
theorem dX11_init_203 : decode cX11_init 203 = .ok (.newarray .int, 2) := by decide +kernel
theorem dX11_init_205 : decode cX11_init 205 = .ok (.putfield 87, 3) := by decide +kernel
theorem dX11_init_208 : decode cX11_init 208 = .ok (.aload_n 0, 1) := by decide +kernel
theorem dX11_init_209 : decode cX11_init 209 = .ok (.bipush 8, 2) := by decide +kernel
theorem dX11_init_211 : decode cX11_init 211 = .ok (.newarray .int, 2) := by decide +kernel
theorem dX11_init_213 : decode cX11_init 213 = .ok (.putfield 90, 3) := by decide +kernel
theorem dX11_init_216 : decode cX11_init 216 = .ok (.aload_n 0, 1) := by decide +kernel
theorem dX11_init_217 : decode cX11_init 217 = .ok (.bipush 16, 2) := by decide +kernel
theorem dX11_init_219 : decode cX11_init 219 = .ok (.newarray .int, 2) := by decide +kernel
theorem dX11_init_221 : decode cX11_init 221 = .ok (.putfield 93, 3) := by decide +kernel
theorem dX11_init_224 : decode cX11_init 224 = .ok (.aload_n 0, 1) := by decide +kernel
theorem dX11_init_225 : decode cX11_init 225 = .ok (.bipush 16, 2) := by decide +kernel
theorem dX11_init_227 : decode cX11_init 227 = .ok (.newarray .int, 2) := by decide +kernel
theorem dX11_init_229 : decode cX11_init 229 = .ok (.putfield 96, 3) := by decide +kernel
theorem dX11_init_232 : decode cX11_init 232 = .ok (.aload_n 0, 1) := by decide +kernel
theorem dX11_init_233 : decode cX11_init 233 = .ok (.bipush 16, 2) := by decide +kernel
theorem dX11_init_235 : decode cX11_init 235 = .ok (.newarray .int, 2) := by decide +kernel
theorem dX11_init_237 : decode cX11_init 237 = .ok (.putfield 99, 3) := by decide +kernel
theorem dX11_init_240 : decode cX11_init 240 = .ok (.aload_n 0, 1) := by decide +kernel
theorem dX11_init_241 : decode cX11_init 241 = .ok (.bipush 16, 2) := by decide +kernel
theorem dX11_init_243 : decode cX11_init 243 = .ok (.newarray .int, 2) := by decide +kernel
theorem dX11_init_245 : decode cX11_init 245 = .ok (.putfield 102, 3) := by decide +kernel
theorem dX11_init_248 : decode cX11_init 248 = .ok (.aload_n 0, 1) := by decide +kernel
theorem dX11_init_249 : decode cX11_init 249 = .ok (.bipush 16, 2) := by decide +kernel
theorem dX11_init_251 : decode cX11_init 251 = .ok (.newarray .int, 2) := by decide +kernel
theorem dX11_init_253 : decode cX11_init 253 = .ok (.putfield 105, 3) := by decide +kernel
theorem dX11_init_256 : decode cX11_init 256 = .ok (.aload_n 0, 1) := by decide +kernel
theorem dX11_init_257 : decode cX11_init 257 = .ok (.bipush 16, 2) := by decide +kernel
theorem dX11_init_259 : decode cX11_init 259 = .ok (.newarray .int, 2) := by decide +kernel
theorem dX11_init_261 : decode cX11_init 261 = .ok (.putfield 108, 3) := by decide +kernel
theorem dX11_init_264 : decode cX11_init 264 = .ok (.aload_n 0, 1) := by decide +kernel
theorem dX11_init_265 : decode cX11_init 265 = .ok (.sipush 1024, 3) := by decide +kernel
theorem dX11_init_268 : decode cX11_init 268 = .ok (.newarray .int, 2) := by decide +kernel
theorem dX11_init_270 : decode cX11_init 270 = .ok (.putfield 111, 3) := by decide +kernel
theorem dX11_init_273 : decode cX11_init 273 = .ok (.aload_n 0, 1) := by decide +kernel
theorem dX11_init_274 : decode cX11_init 274 = .ok (.bipush 8, 2) := by decide +kernel
theorem dX11_init_276 : decode cX11_init 276 = .ok (.newarray .int, 2) := by decide +kernel
theorem dX11_init_278 : decode cX11_init 278 = .ok (.putfield 114, 3) := by decide +kernel
theorem dX11_init_281 : decode cX11_init 281 = .ok (.aload_n 0, 1) := by decide +kernel
theorem dX11_init_282 : decode cX11_init 282 = .ok (.bipush 8, 2) := by decide +kernel
theorem dX11_init_284 : decode cX11_init 284 = .ok (.newarray .int, 2) := by decide +kernel
theorem dX11_init_286 : decode cX11_init 286 = .ok (.putfield 117, 3) := by decide +kernel
theorem dX11_init_289 : decode cX11_init 289 = .ok (.aload_n 0, 1) := by decide +kernel
theorem dX11_init_290 : decode cX11_init 290 = .ok (.iconst 4, 1) := by decide +kernel
theorem dX11_init_291 : decode cX11_init 291 = .ok (.newarray .int, 2) := by decide +kernel
theorem dX11_init_293 : decode cX11_init 293 = .ok (.putfield 120, 3) := by decide +kernel
theorem dX11_init_296 : decode cX11_init 296 = .ok (.iconst 0, 1) := by decide +kernel
theorem dX11_init_297 : decode cX11_init 297 = .ok (.istore_n 1, 1) := by decide +kernel
theorem dX11_init_298 : decode cX11_init 298 = .ok (.iload_n 1, 1) := by decide +kernel
theorem dX11_init_299 : decode cX11_init 299 = .ok (.bipush 7, 2) := by decide +kernel
theorem dX11_init_301 : decode cX11_init 301 = .ok (.if_icmp .ge 23, 3) := by decide +kernel
theorem dX11_init_304 : decode cX11_init 304 = .ok (.aload_n 0, 1) := by decide +kernel
theorem dX11_init_305 : decode cX11_init 305 = .ok (.getfield 17, 3) := by decide +kernel
theorem dX11_init_308 : decode cX11_init 308 = .ok (.iload_n 1, 1) := by decide +kernel
theorem dX11_init_309 : decode cX11_init 309 = .ok (.iconst (-1), 1) := by decide +kernel
theorem dX11_init_310 : decode cX11_init 310 = .ok (.iastore, 1) := by decide +kernel
theorem dX11_init_311 : decode cX11_init 311 = .ok (.aload_n 0, 1) := by decide +kernel
theorem dX11_init_312 : decode cX11_init 312 = .ok (.getfield 21, 3) := by decide +kernel
theorem dX11_init_315 : decode cX11_init 315 = .ok (.iload_n 1, 1) := by decide +kernel
theorem dX11_init_316 : decode cX11_init 316 = .ok (.iconst (-1), 1) := by decide +kernel
theorem dX11_init_317 : decode cX11_init 317 = .ok (.iastore, 1) := by decide +kernel
theorem dX11_init_318 : decode cX11_init 318 = .ok (.iinc 1 1, 3) := by decide +kernel
theorem dX11_init_321 : decode cX11_init 321 = .ok (.goto (-23), 3) := by decide +kernel
theorem dX11_init_324 : decode cX11_init 324 = .ok (.return_, 1) := by decide +kernel
theorem dX11_lies_0 : decode cX11_lies 0 = .ok (.iload_n 0, 1) := by decide +kernel
theorem dX11_lies_1 : decode cX11_lies 1 = .ok (.iload_n 1, 1) := by decide +kernel
theorem dX11_lies_2 : decode cX11_lies 2 = .ok (.if_icmp .lt 12, 3) := by decide +kernel
theorem dX11_lies_5 : decode cX11_lies 5 = .ok (.iload_n 0, 1) := by decide +kernel
theorem dX11_lies_6 : decode cX11_lies 6 = .ok (.iload_n 2, 1) := by decide +kernel
theorem dX11_lies_7 : decode cX11_lies 7 = .ok (.if_icmp .gt 7, 3) := by decide +kernel
theorem dX11_lies_10 : decode cX11_lies 10 = .ok (.iconst 1, 1) := by decide +kernel
theorem dX11_lies_11 : decode cX11_lies 11 = .ok (.goto 4, 3) := by decide +kernel
theorem dX11_lies_14 : decode cX11_lies 14 = .ok (.iconst 0, 1) := by decide +kernel
theorem dX11_lies_15 : decode cX11_lies 15 = .ok (.ireturn, 1) := by decide +kernel
theorem dX11_push_0 : decode cX11_push 0 = .ok (.bipush 24, 2) := by decide +kernel
theorem dX11_push_2 : decode cX11_push 2 = .ok (.istore_n 2, 1) := by decide +kernel
theorem dX11_push_3 : decode cX11_push 3 = .ok (.iload_n 2, 1) := by decide +kernel
theorem dX11_push_4 : decode cX11_push 4 = .ok (.ifCond .lt 32, 3) := by decide +kernel
theorem dX11_push_7 : decode cX11_push 7 = .ok (.aload_n 0, 1) := by decide +kernel
theorem dX11_push_8 : decode cX11_push 8 = .ok (.getfield 7, 3) := by decide +kernel
theorem dX11_push_11 : decode cX11_push 11 = .ok (.aload_n 0, 1) := by decide +kernel
theorem dX11_push_12 : decode cX11_push 12 = .ok (.getfield 123, 3) := by decide +kernel
theorem dX11_push_15 : decode cX11_push 15 = .ok (.iload_n 1, 1) := by decide +kernel
theorem dX11_push_16 : decode cX11_push 16 = .ok (.iload_n 2, 1) := by decide +kernel
theorem dX11_push_17 : decode cX11_push 17 = .ok (.ishr, 1) := by decide +kernel
theorem dX11_push_18 : decode cX11_push 18 = .ok (.i2b, 1) := by decide +kernel
theorem dX11_push_19 : decode cX11_push 19 = .ok (.bastore, 1) := by decide +kernel
theorem dX11_push_20 : decode cX11_push 20 = .ok (.aload_n 0, 1) := by decide +kernel
theorem dX11_push_21 : decode cX11_push 21 = .ok (.dup, 1) := by decide +kernel
theorem dX11_push_22 : decode cX11_push 22 = .ok (.getfield 123, 3) := by decide +kernel
theorem dX11_push_25 : decode cX11_push 25 = .ok (.iconst 1, 1) := by decide +kernel
theorem dX11_push_26 : decode cX11_push 26 = .ok (.iadd, 1) := by decide +kernel
theorem dX11_push_27 : decode cX11_push 27 = .ok (.putfield 123, 3) := by decide +kernel
theorem dX11_push_30 : decode cX11_push 30 = .ok (.iinc 2 (-8), 3) := by decide +kernel
theorem dX11_push_33 : decode cX11_push 33 = .ok (.goto (-30), 3) := by decide +kernel
theorem dX11_push_36 : decode cX11_push 36 = .ok (.return_, 1) := by decide +kernel
theorem dX11_feed_0 : decode cX11_feed 0 = .ok (.aload_n 0, 1) := by decide +kernel
theorem dX11_feed_1 : decode cX11_feed 1 = .ok (.getfield 123, 3) := by decide +kernel
theorem dX11_feed_4 : decode cX11_feed 4 = .ok (.bipush 20, 2) := by decide +kernel
theorem dX11_feed_6 : decode cX11_feed 6 = .ok (.iadd, 1) := by decide +kernel
theorem dX11_feed_7 : decode cX11_feed 7 = .ok (.bipush 40, 2) := by decide +kernel
theorem dX11_feed_9 : decode cX11_feed 9 = .ok (.if_icmp .le 5, 3) := by decide +kernel
theorem dX11_feed_12 : decode cX11_feed 12 = .ok (.iconst (-1), 1) := by decide +kernel
theorem dX11_feed_13 : decode cX11_feed 13 = .ok (.ireturn, 1) := by decide +kernel
theorem dX11_feed_14 : decode cX11_feed 14 = .ok (.aload_n 0, 1) := by decide +kernel
theorem dX11_feed_15 : decode cX11_feed 15 = .ok (.iload_n 1, 1) := by decide +kernel
theorem dX11_feed_16 : decode cX11_feed 16 = .ok (.invokevirtual 127, 3) := by decide +kernel
theorem dX11_feed_19 : decode cX11_feed 19 = .ok (.aload_n 0, 1) := by decide +kernel
theorem dX11_feed_20 : decode cX11_feed 20 = .ok (.iload_n 2, 1) := by decide +kernel
theorem dX11_feed_21 : decode cX11_feed 21 = .ok (.invokevirtual 127, 3) := by decide +kernel
theorem dX11_feed_24 : decode cX11_feed 24 = .ok (.aload_n 0, 1) := by decide +kernel
theorem dX11_feed_25 : decode cX11_feed 25 = .ok (.iload_n 3, 1) := by decide +kernel
theorem dX11_feed_26 : decode cX11_feed 26 = .ok (.invokevirtual 127, 3) := by decide +kernel
theorem dX11_feed_29 : decode cX11_feed 29 = .ok (.aload_n 0, 1) := by decide +kernel
theorem dX11_feed_30 : decode cX11_feed 30 = .ok (.iload 4, 2) := by decide +kernel
theorem dX11_feed_32 : decode cX11_feed 32 = .ok (.invokevirtual 127, 3) := by decide +kernel
theorem dX11_feed_35 : decode cX11_feed 35 = .ok (.aload_n 0, 1) := by decide +kernel
theorem dX11_feed_36 : decode cX11_feed 36 = .ok (.iload 5, 2) := by decide +kernel
theorem dX11_feed_38 : decode cX11_feed 38 = .ok (.invokevirtual 127, 3) := by decide +kernel
theorem dX11_feed_41 : decode cX11_feed 41 = .ok (.aload_n 0, 1) := by decide +kernel
theorem dX11_feed_42 : decode cX11_feed 42 = .ok (.getfield 123, 3) := by decide +kernel
theorem dX11_feed_45 : decode cX11_feed 45 = .ok (.ireturn, 1) := by decide +kernel
theorem dX11_at_0 : decode cX11_at 0 = .ok (.iload_n 1, 1) := by decide +kernel
theorem dX11_at_1 : decode cX11_at 1 = .ok (.iload_n 2, 1) := by decide +kernel
theorem dX11_at_2 : decode cX11_at 2 = .ok (.if_icmp .ge 16, 3) := by decide +kernel
theorem dX11_at_5 : decode cX11_at 5 = .ok (.aload_n 0, 1) := by decide +kernel
theorem dX11_at_6 : decode cX11_at 6 = .ok (.getfield 7, 3) := by decide +kernel
theorem dX11_at_9 : decode cX11_at 9 = .ok (.iload_n 1, 1) := by decide +kernel
theorem dX11_at_10 : decode cX11_at 10 = .ok (.baload, 1) := by decide +kernel
theorem dX11_at_11 : decode cX11_at 11 = .ok (.sipush 255, 3) := by decide +kernel
theorem dX11_at_14 : decode cX11_at 14 = .ok (.iand, 1) := by decide +kernel
theorem dX11_at_15 : decode cX11_at 15 = .ok (.goto 4, 3) := by decide +kernel
theorem dX11_at_18 : decode cX11_at 18 = .ok (.iconst 0, 1) := by decide +kernel
theorem dX11_at_19 : decode cX11_at 19 = .ok (.ireturn, 1) := by decide +kernel
theorem dX11_reads_0 : decode cX11_reads 0 = .ok (.aload_n 0, 1) := by decide +kernel
theorem dX11_reads_1 : decode cX11_reads 1 = .ok (.iconst (-1), 1) := by decide +kernel
theorem dX11_reads_2 : decode cX11_reads 2 = .ok (.putfield 131, 3) := by decide +kernel
theorem dX11_reads_5 : decode cX11_reads 5 = .ok (.aload_n 0, 1) := by decide +kernel
theorem dX11_reads_6 : decode cX11_reads 6 = .ok (.iconst (-1), 1) := by decide +kernel
theorem dX11_reads_7 : decode cX11_reads 7 = .ok (.putfield 134, 3) := by decide +kernel
theorem dX11_reads_10 : decode cX11_reads 10 = .ok (.iconst 0, 1) := by decide +kernel
theorem dX11_reads_11 : decode cX11_reads 11 = .ok (.istore_n 2, 1) := by decide +kernel
theorem dX11_reads_12 : decode cX11_reads 12 = .ok (.iconst 0, 1) := by decide +kernel
theorem dX11_reads_13 : decode cX11_reads 13 = .ok (.istore_n 3, 1) := by decide +kernel
theorem dX11_reads_14 : decode cX11_reads 14 = .ok (.iload_n 3, 1) := by decide +kernel
theorem dX11_reads_15 : decode cX11_reads 15 = .ok (.iload_n 1, 1) := by decide +kernel
theorem dX11_reads_16 : decode cX11_reads 16 = .ok (.if_icmp .gt 192, 3) := by decide +kernel
theorem dX11_reads_19 : decode cX11_reads 19 = .ok (.aload_n 0, 1) := by decide +kernel
theorem dX11_reads_20 : decode cX11_reads 20 = .ok (.iload_n 2, 1) := by decide +kernel
theorem dX11_reads_21 : decode cX11_reads 21 = .ok (.iload_n 1, 1) := by decide +kernel
theorem dX11_reads_22 : decode cX11_reads 22 = .ok (.invokevirtual 137, 3) := by decide +kernel
theorem dX11_reads_25 : decode cX11_reads 25 = .ok (.istore 4, 2) := by decide +kernel
theorem dX11_reads_27 : decode cX11_reads 27 = .ok (.iload 4, 2) := by decide +kernel
theorem dX11_reads_29 : decode cX11_reads 29 = .ok (.bipush 100, 2) := by decide +kernel
theorem dX11_reads_31 : decode cX11_reads 31 = .ok (.if_icmp .eq 15, 3) := by decide +kernel
theorem dX11_reads_34 : decode cX11_reads 34 = .ok (.iload 4, 2) := by decide +kernel
theorem dX11_reads_36 : decode cX11_reads 36 = .ok (.bipush 114, 2) := by decide +kernel
theorem dX11_reads_38 : decode cX11_reads 38 = .ok (.if_icmp .eq 8, 3) := by decide +kernel
theorem dX11_reads_41 : decode cX11_reads 41 = .ok (.bipush 100, 2) := by decide +kernel
theorem dX11_reads_43 : decode cX11_reads 43 = .ok (.iload_n 2, 1) := by decide +kernel
theorem dX11_reads_44 : decode cX11_reads 44 = .ok (.iadd, 1) := by decide +kernel
theorem dX11_reads_45 : decode cX11_reads 45 = .ok (.ireturn, 1) := by decide +kernel
theorem dX11_reads_46 : decode cX11_reads 46 = .ok (.iinc 2 1, 3) := by decide +kernel
theorem dX11_reads_49 : decode cX11_reads 49 = .ok (.aload_n 0, 1) := by decide +kernel
theorem dX11_reads_50 : decode cX11_reads 50 = .ok (.iload_n 2, 1) := by decide +kernel
theorem dX11_reads_51 : decode cX11_reads 51 = .ok (.iload_n 1, 1) := by decide +kernel
theorem dX11_reads_52 : decode cX11_reads 52 = .ok (.invokevirtual 137, 3) := by decide +kernel
theorem dX11_reads_55 : decode cX11_reads 55 = .ok (.bipush 48, 2) := by decide +kernel
theorem dX11_reads_57 : decode cX11_reads 57 = .ok (.bipush 57, 2) := by decide +kernel
theorem dX11_reads_59 : decode cX11_reads 59 = .ok (.invokestatic 141, 3) := by decide +kernel
theorem dX11_reads_62 : decode cX11_reads 62 = .ok (.ifCond .ne 9, 3) := by decide +kernel
theorem dX11_reads_65 : decode cX11_reads 65 = .ok (.sipush 200, 3) := by decide +kernel
theorem dX11_reads_68 : decode cX11_reads 68 = .ok (.iload_n 2, 1) := by decide +kernel
theorem dX11_reads_69 : decode cX11_reads 69 = .ok (.iadd, 1) := by decide +kernel
theorem dX11_reads_70 : decode cX11_reads 70 = .ok (.ireturn, 1) := by decide +kernel
theorem dX11_reads_71 : decode cX11_reads 71 = .ok (.iload_n 2, 1) := by decide +kernel
theorem dX11_reads_72 : decode cX11_reads 72 = .ok (.istore 5, 2) := by decide +kernel
theorem dX11_reads_74 : decode cX11_reads 74 = .ok (.iconst 0, 1) := by decide +kernel
theorem dX11_reads_75 : decode cX11_reads 75 = .ok (.istore 6, 2) := by decide +kernel
theorem dX11_reads_77 : decode cX11_reads 77 = .ok (.aload_n 0, 1) := by decide +kernel
theorem dX11_reads_78 : decode cX11_reads 78 = .ok (.iload_n 2, 1) := by decide +kernel
theorem dX11_reads_79 : decode cX11_reads 79 = .ok (.iload_n 1, 1) := by decide +kernel
theorem dX11_reads_80 : decode cX11_reads 80 = .ok (.invokevirtual 137, 3) := by decide +kernel
theorem dX11_reads_83 : decode cX11_reads 83 = .ok (.bipush 48, 2) := by decide +kernel
theorem dX11_reads_85 : decode cX11_reads 85 = .ok (.bipush 57, 2) := by decide +kernel
theorem dX11_reads_87 : decode cX11_reads 87 = .ok (.invokestatic 141, 3) := by decide +kernel
theorem dX11_reads_90 : decode cX11_reads 90 = .ok (.ifCond .eq 34, 3) := by decide +kernel
theorem dX11_reads_93 : decode cX11_reads 93 = .ok (.iload_n 2, 1) := by decide +kernel
theorem dX11_reads_94 : decode cX11_reads 94 = .ok (.iload 5, 2) := by decide +kernel
theorem dX11_reads_96 : decode cX11_reads 96 = .ok (.iconst 5, 1) := by decide +kernel
theorem dX11_reads_97 : decode cX11_reads 97 = .ok (.iadd, 1) := by decide +kernel
theorem dX11_reads_98 : decode cX11_reads 98 = .ok (.if_icmp .ge 26, 3) := by decide +kernel
theorem dX11_reads_101 : decode cX11_reads 101 = .ok (.bipush 10, 2) := by decide +kernel
theorem dX11_reads_103 : decode cX11_reads 103 = .ok (.iload 6, 2) := by decide +kernel
theorem dX11_reads_105 : decode cX11_reads 105 = .ok (.imul, 1) := by decide +kernel
theorem dX11_reads_106 : decode cX11_reads 106 = .ok (.aload_n 0, 1) := by decide +kernel
theorem dX11_reads_107 : decode cX11_reads 107 = .ok (.iload_n 2, 1) := by decide +kernel
theorem dX11_reads_108 : decode cX11_reads 108 = .ok (.iload_n 1, 1) := by decide +kernel
theorem dX11_reads_109 : decode cX11_reads 109 = .ok (.invokevirtual 137, 3) := by decide +kernel
theorem dX11_reads_112 : decode cX11_reads 112 = .ok (.iadd, 1) := by decide +kernel
theorem dX11_reads_113 : decode cX11_reads 113 = .ok (.bipush 48, 2) := by decide +kernel
theorem dX11_reads_115 : decode cX11_reads 115 = .ok (.isub, 1) := by decide +kernel
theorem dX11_reads_116 : decode cX11_reads 116 = .ok (.istore 6, 2) := by decide +kernel
theorem dX11_reads_118 : decode cX11_reads 118 = .ok (.iinc 2 1, 3) := by decide +kernel
theorem dX11_reads_121 : decode cX11_reads 121 = .ok (.goto (-44), 3) := by decide +kernel
theorem dX11_reads_124 : decode cX11_reads 124 = .ok (.iload_n 2, 1) := by decide +kernel
theorem dX11_reads_125 : decode cX11_reads 125 = .ok (.iload 5, 2) := by decide +kernel
theorem dX11_reads_127 : decode cX11_reads 127 = .ok (.iconst 5, 1) := by decide +kernel
theorem dX11_reads_128 : decode cX11_reads 128 = .ok (.iadd, 1) := by decide +kernel
theorem dX11_reads_129 : decode cX11_reads 129 = .ok (.if_icmp .eq 17, 3) := by decide +kernel
theorem dX11_reads_132 : decode cX11_reads 132 = .ok (.iload 4, 2) := by decide +kernel
theorem dX11_reads_134 : decode cX11_reads 134 = .ok (.bipush 100, 2) := by decide +kernel
theorem dX11_reads_136 : decode cX11_reads 136 = .ok (.if_icmp .ne 17, 3) := by decide +kernel
theorem dX11_reads_139 : decode cX11_reads 139 = .ok (.iload 6, 2) := by decide +kernel
theorem dX11_reads_141 : decode cX11_reads 141 = .ok (.bipush 60, 2) := by decide +kernel
theorem dX11_reads_143 : decode cX11_reads 143 = .ok (.if_icmp .ge 10, 3) := by decide +kernel
theorem dX11_reads_146 : decode cX11_reads 146 = .ok (.sipush 300, 3) := by decide +kernel
theorem dX11_reads_149 : decode cX11_reads 149 = .ok (.iload 5, 2) := by decide +kernel
theorem dX11_reads_151 : decode cX11_reads 151 = .ok (.iadd, 1) := by decide +kernel
theorem dX11_reads_152 : decode cX11_reads 152 = .ok (.ireturn, 1) := by decide +kernel
theorem dX11_reads_153 : decode cX11_reads 153 = .ok (.iload 4, 2) := by decide +kernel
theorem dX11_reads_155 : decode cX11_reads 155 = .ok (.bipush 100, 2) := by decide +kernel
theorem dX11_reads_157 : decode cX11_reads 157 = .ok (.if_icmp .ne 12, 3) := by decide +kernel
theorem dX11_reads_160 : decode cX11_reads 160 = .ok (.aload_n 0, 1) := by decide +kernel
theorem dX11_reads_161 : decode cX11_reads 161 = .ok (.iload 6, 2) := by decide +kernel
theorem dX11_reads_163 : decode cX11_reads 163 = .ok (.putfield 131, 3) := by decide +kernel
theorem dX11_reads_166 : decode cX11_reads 166 = .ok (.goto 9, 3) := by decide +kernel
theorem dX11_reads_169 : decode cX11_reads 169 = .ok (.aload_n 0, 1) := by decide +kernel
theorem dX11_reads_170 : decode cX11_reads 170 = .ok (.iload 6, 2) := by decide +kernel
theorem dX11_reads_172 : decode cX11_reads 172 = .ok (.putfield 134, 3) := by decide +kernel
theorem dX11_reads_175 : decode cX11_reads 175 = .ok (.iload_n 2, 1) := by decide +kernel
theorem dX11_reads_176 : decode cX11_reads 176 = .ok (.iload_n 1, 1) := by decide +kernel
theorem dX11_reads_177 : decode cX11_reads 177 = .ok (.if_icmp .ne 5, 3) := by decide +kernel
theorem dX11_reads_180 : decode cX11_reads 180 = .ok (.iconst 0, 1) := by decide +kernel
theorem dX11_reads_181 : decode cX11_reads 181 = .ok (.ireturn, 1) := by decide +kernel
theorem dX11_reads_182 : decode cX11_reads 182 = .ok (.aload_n 0, 1) := by decide +kernel
theorem dX11_reads_183 : decode cX11_reads 183 = .ok (.iload_n 2, 1) := by decide +kernel
theorem dX11_reads_184 : decode cX11_reads 184 = .ok (.iload_n 1, 1) := by decide +kernel
theorem dX11_reads_185 : decode cX11_reads 185 = .ok (.invokevirtual 137, 3) := by decide +kernel
theorem dX11_reads_188 : decode cX11_reads 188 = .ok (.bipush 59, 2) := by decide +kernel
theorem dX11_reads_190 : decode cX11_reads 190 = .ok (.if_icmp .eq 9, 3) := by decide +kernel
theorem dX11_reads_193 : decode cX11_reads 193 = .ok (.sipush 400, 3) := by decide +kernel
theorem dX11_reads_196 : decode cX11_reads 196 = .ok (.iload_n 2, 1) := by decide +kernel
theorem dX11_reads_197 : decode cX11_reads 197 = .ok (.iadd, 1) := by decide +kernel
theorem dX11_reads_198 : decode cX11_reads 198 = .ok (.ireturn, 1) := by decide +kernel
theorem dX11_reads_199 : decode cX11_reads 199 = .ok (.iinc 2 1, 3) := by decide +kernel
theorem dX11_reads_202 : decode cX11_reads 202 = .ok (.iinc 3 1, 3) := by decide +kernel
theorem dX11_reads_205 : decode cX11_reads 205 = .ok (.goto (-191), 3) := by decide +kernel
theorem dX11_reads_208 : decode cX11_reads 208 = .ok (.bipush 100, 2) := by decide +kernel
theorem dX11_reads_210 : decode cX11_reads 210 = .ok (.iload_n 2, 1) := by decide +kernel
theorem dX11_reads_211 : decode cX11_reads 211 = .ok (.iadd, 1) := by decide +kernel
theorem dX11_reads_212 : decode cX11_reads 212 = .ok (.ireturn, 1) := by decide +kernel
theorem dX11_law_0 : decode cX11_law 0 = .ok (.iload_n 1, 1) := by decide +kernel
theorem dX11_law_1 : decode cX11_law 1 = .ok (.iconst 0, 1) := by decide +kernel
theorem dX11_law_2 : decode cX11_law 2 = .ok (.bipush 6, 2) := by decide +kernel
theorem dX11_law_4 : decode cX11_law 4 = .ok (.invokestatic 141, 3) := by decide +kernel
theorem dX11_law_7 : decode cX11_law 7 = .ok (.ifCond .eq 15, 3) := by decide +kernel
theorem dX11_law_10 : decode cX11_law 10 = .ok (.iload_n 2, 1) := by decide +kernel
theorem dX11_law_11 : decode cX11_law 11 = .ok (.ifCond .lt 11, 3) := by decide +kernel
theorem dX11_law_14 : decode cX11_law 14 = .ok (.iload_n 2, 1) := by decide +kernel
theorem dX11_law_15 : decode cX11_law 15 = .ok (.aload_n 0, 1) := by decide +kernel
theorem dX11_law_16 : decode cX11_law 16 = .ok (.getfield 123, 3) := by decide +kernel
theorem dX11_law_19 : decode cX11_law 19 = .ok (.if_icmp .le 5, 3) := by decide +kernel
theorem dX11_law_22 : decode cX11_law 22 = .ok (.iconst (-1), 1) := by decide +kernel
theorem dX11_law_23 : decode cX11_law 23 = .ok (.ireturn, 1) := by decide +kernel
theorem dX11_law_24 : decode cX11_law 24 = .ok (.aload_n 0, 1) := by decide +kernel
theorem dX11_law_25 : decode cX11_law 25 = .ok (.iconst 0, 1) := by decide +kernel
theorem dX11_law_26 : decode cX11_law 26 = .ok (.putfield 123, 3) := by decide +kernel
theorem dX11_law_29 : decode cX11_law 29 = .ok (.aload_n 0, 1) := by decide +kernel
theorem dX11_law_30 : decode cX11_law 30 = .ok (.iload_n 2, 1) := by decide +kernel
theorem dX11_law_31 : decode cX11_law 31 = .ok (.invokevirtual 145, 3) := by decide +kernel
theorem dX11_law_34 : decode cX11_law 34 = .ok (.istore_n 3, 1) := by decide +kernel
theorem dX11_law_35 : decode cX11_law 35 = .ok (.iload_n 3, 1) := by decide +kernel
theorem dX11_law_36 : decode cX11_law 36 = .ok (.ifCond .le 5, 3) := by decide +kernel
theorem dX11_law_39 : decode cX11_law 39 = .ok (.iload_n 3, 1) := by decide +kernel
theorem dX11_law_40 : decode cX11_law 40 = .ok (.ireturn, 1) := by decide +kernel
theorem dX11_law_41 : decode cX11_law 41 = .ok (.aload_n 0, 1) := by decide +kernel
theorem dX11_law_42 : decode cX11_law 42 = .ok (.getfield 13, 3) := by decide +kernel
theorem dX11_law_45 : decode cX11_law 45 = .ok (.iload_n 1, 1) := by decide +kernel
theorem dX11_law_46 : decode cX11_law 46 = .ok (.iconst 1, 1) := by decide +kernel
theorem dX11_law_47 : decode cX11_law 47 = .ok (.bastore, 1) := by decide +kernel
theorem dX11_law_48 : decode cX11_law 48 = .ok (.aload_n 0, 1) := by decide +kernel
theorem dX11_law_49 : decode cX11_law 49 = .ok (.getfield 17, 3) := by decide +kernel
theorem dX11_law_52 : decode cX11_law 52 = .ok (.iload_n 1, 1) := by decide +kernel
theorem dX11_law_53 : decode cX11_law 53 = .ok (.aload_n 0, 1) := by decide +kernel
theorem dX11_law_54 : decode cX11_law 54 = .ok (.getfield 131, 3) := by decide +kernel
theorem dX11_law_57 : decode cX11_law 57 = .ok (.iastore, 1) := by decide +kernel
theorem dX11_law_58 : decode cX11_law 58 = .ok (.aload_n 0, 1) := by decide +kernel
theorem dX11_law_59 : decode cX11_law 59 = .ok (.getfield 21, 3) := by decide +kernel
theorem dX11_law_62 : decode cX11_law 62 = .ok (.iload_n 1, 1) := by decide +kernel
theorem dX11_law_63 : decode cX11_law 63 = .ok (.aload_n 0, 1) := by decide +kernel
theorem dX11_law_64 : decode cX11_law 64 = .ok (.getfield 134, 3) := by decide +kernel
theorem dX11_law_67 : decode cX11_law 67 = .ok (.iastore, 1) := by decide +kernel
theorem dX11_law_68 : decode cX11_law 68 = .ok (.iconst 0, 1) := by decide +kernel
theorem dX11_law_69 : decode cX11_law 69 = .ok (.ireturn, 1) := by decide +kernel
theorem dX11_dutyOn_0 : decode cX11_dutyOn 0 = .ok (.sipush 840, 3) := by decide +kernel
theorem dX11_dutyOn_3 : decode cX11_dutyOn 3 = .ok (.istore_n 2, 1) := by decide +kernel
theorem dX11_dutyOn_4 : decode cX11_dutyOn 4 = .ok (.iconst 0, 1) := by decide +kernel
theorem dX11_dutyOn_5 : decode cX11_dutyOn 5 = .ok (.istore_n 3, 1) := by decide +kernel
theorem dX11_dutyOn_6 : decode cX11_dutyOn 6 = .ok (.iload_n 3, 1) := by decide +kernel
theorem dX11_dutyOn_7 : decode cX11_dutyOn 7 = .ok (.iload_n 1, 1) := by decide +kernel
theorem dX11_dutyOn_8 : decode cX11_dutyOn 8 = .ok (.if_icmp .gt 39, 3) := by decide +kernel
theorem dX11_dutyOn_11 : decode cX11_dutyOn 11 = .ok (.aload_n 0, 1) := by decide +kernel
theorem dX11_dutyOn_12 : decode cX11_dutyOn 12 = .ok (.getfield 13, 3) := by decide +kernel
theorem dX11_dutyOn_15 : decode cX11_dutyOn 15 = .ok (.iload_n 3, 1) := by decide +kernel
theorem dX11_dutyOn_16 : decode cX11_dutyOn 16 = .ok (.baload, 1) := by decide +kernel
theorem dX11_dutyOn_17 : decode cX11_dutyOn 17 = .ok (.ifCond .eq 22, 3) := by decide +kernel
theorem dX11_dutyOn_20 : decode cX11_dutyOn 20 = .ok (.aload_n 0, 1) := by decide +kernel
theorem dX11_dutyOn_21 : decode cX11_dutyOn 21 = .ok (.getfield 17, 3) := by decide +kernel
theorem dX11_dutyOn_24 : decode cX11_dutyOn 24 = .ok (.iload_n 3, 1) := by decide +kernel
theorem dX11_dutyOn_25 : decode cX11_dutyOn 25 = .ok (.iaload, 1) := by decide +kernel
theorem dX11_dutyOn_26 : decode cX11_dutyOn 26 = .ok (.iconst (-1), 1) := by decide +kernel
theorem dX11_dutyOn_27 : decode cX11_dutyOn 27 = .ok (.if_icmp .eq 12, 3) := by decide +kernel
theorem dX11_dutyOn_30 : decode cX11_dutyOn 30 = .ok (.aload_n 0, 1) := by decide +kernel
theorem dX11_dutyOn_31 : decode cX11_dutyOn 31 = .ok (.getfield 17, 3) := by decide +kernel
theorem dX11_dutyOn_34 : decode cX11_dutyOn 34 = .ok (.iload_n 3, 1) := by decide +kernel
theorem dX11_dutyOn_35 : decode cX11_dutyOn 35 = .ok (.iaload, 1) := by decide +kernel
theorem dX11_dutyOn_36 : decode cX11_dutyOn 36 = .ok (.goto 4, 3) := by decide +kernel
theorem dX11_dutyOn_39 : decode cX11_dutyOn 39 = .ok (.iload_n 2, 1) := by decide +kernel
theorem dX11_dutyOn_40 : decode cX11_dutyOn 40 = .ok (.istore_n 2, 1) := by decide +kernel
theorem dX11_dutyOn_41 : decode cX11_dutyOn 41 = .ok (.iinc 3 1, 3) := by decide +kernel
theorem dX11_dutyOn_44 : decode cX11_dutyOn 44 = .ok (.goto (-38), 3) := by decide +kernel
theorem dX11_dutyOn_47 : decode cX11_dutyOn 47 = .ok (.iload_n 2, 1) := by decide +kernel
theorem dX11_dutyOn_48 : decode cX11_dutyOn 48 = .ok (.ireturn, 1) := by decide +kernel
theorem dX11_restOn_0 : decode cX11_restOn 0 = .ok (.sipush 600, 3) := by decide +kernel
theorem dX11_restOn_3 : decode cX11_restOn 3 = .ok (.istore_n 2, 1) := by decide +kernel
theorem dX11_restOn_4 : decode cX11_restOn 4 = .ok (.iconst 0, 1) := by decide +kernel
theorem dX11_restOn_5 : decode cX11_restOn 5 = .ok (.istore_n 3, 1) := by decide +kernel
theorem dX11_restOn_6 : decode cX11_restOn 6 = .ok (.iload_n 3, 1) := by decide +kernel
theorem dX11_restOn_7 : decode cX11_restOn 7 = .ok (.iload_n 1, 1) := by decide +kernel
theorem dX11_restOn_8 : decode cX11_restOn 8 = .ok (.if_icmp .gt 39, 3) := by decide +kernel
theorem dX11_restOn_11 : decode cX11_restOn 11 = .ok (.aload_n 0, 1) := by decide +kernel
theorem dX11_restOn_12 : decode cX11_restOn 12 = .ok (.getfield 13, 3) := by decide +kernel
theorem dX11_restOn_15 : decode cX11_restOn 15 = .ok (.iload_n 3, 1) := by decide +kernel
theorem dX11_restOn_16 : decode cX11_restOn 16 = .ok (.baload, 1) := by decide +kernel
theorem dX11_restOn_17 : decode cX11_restOn 17 = .ok (.ifCond .eq 22, 3) := by decide +kernel
theorem dX11_restOn_20 : decode cX11_restOn 20 = .ok (.aload_n 0, 1) := by decide +kernel
theorem dX11_restOn_21 : decode cX11_restOn 21 = .ok (.getfield 21, 3) := by decide +kernel
theorem dX11_restOn_24 : decode cX11_restOn 24 = .ok (.iload_n 3, 1) := by decide +kernel
theorem dX11_restOn_25 : decode cX11_restOn 25 = .ok (.iaload, 1) := by decide +kernel
theorem dX11_restOn_26 : decode cX11_restOn 26 = .ok (.iconst (-1), 1) := by decide +kernel
theorem dX11_restOn_27 : decode cX11_restOn 27 = .ok (.if_icmp .eq 12, 3) := by decide +kernel
theorem dX11_restOn_30 : decode cX11_restOn 30 = .ok (.aload_n 0, 1) := by decide +kernel
theorem dX11_restOn_31 : decode cX11_restOn 31 = .ok (.getfield 21, 3) := by decide +kernel
theorem dX11_restOn_34 : decode cX11_restOn 34 = .ok (.iload_n 3, 1) := by decide +kernel
theorem dX11_restOn_35 : decode cX11_restOn 35 = .ok (.iaload, 1) := by decide +kernel
theorem dX11_restOn_36 : decode cX11_restOn 36 = .ok (.goto 4, 3) := by decide +kernel
theorem dX11_restOn_39 : decode cX11_restOn 39 = .ok (.iload_n 2, 1) := by decide +kernel
theorem dX11_restOn_40 : decode cX11_restOn 40 = .ok (.istore_n 2, 1) := by decide +kernel
theorem dX11_restOn_41 : decode cX11_restOn 41 = .ok (.iinc 3 1, 3) := by decide +kernel
theorem dX11_restOn_44 : decode cX11_restOn 44 = .ok (.goto (-38), 3) := by decide +kernel
theorem dX11_restOn_47 : decode cX11_restOn 47 = .ok (.iload_n 2, 1) := by decide +kernel
theorem dX11_restOn_48 : decode cX11_restOn 48 = .ok (.ireturn, 1) := by decide +kernel
theorem dX11_rule_0 : decode cX11_rule 0 = .ok (.iload_n 1, 1) := by decide +kernel
theorem dX11_rule_1 : decode cX11_rule 1 = .ok (.iconst 0, 1) := by decide +kernel
theorem dX11_rule_2 : decode cX11_rule 2 = .ok (.bipush 6, 2) := by decide +kernel
theorem dX11_rule_4 : decode cX11_rule 4 = .ok (.invokestatic 141, 3) := by decide +kernel
theorem dX11_rule_7 : decode cX11_rule 7 = .ok (.ifCond .ne 7, 3) := by decide +kernel
theorem dX11_rule_10 : decode cX11_rule 10 = .ok (.iconst (-1), 1) := by decide +kernel
theorem dX11_rule_11 : decode cX11_rule 11 = .ok (.goto 29, 3) := by decide +kernel
theorem dX11_rule_14 : decode cX11_rule 14 = .ok (.iload_n 2, 1) := by decide +kernel
theorem dX11_rule_15 : decode cX11_rule 15 = .ok (.ifCond .ne 11, 3) := by decide +kernel
theorem dX11_rule_18 : decode cX11_rule 18 = .ok (.aload_n 0, 1) := by decide +kernel
theorem dX11_rule_19 : decode cX11_rule 19 = .ok (.iload_n 1, 1) := by decide +kernel
theorem dX11_rule_20 : decode cX11_rule 20 = .ok (.invokevirtual 149, 3) := by decide +kernel
theorem dX11_rule_23 : decode cX11_rule 23 = .ok (.goto 17, 3) := by decide +kernel
theorem dX11_rule_26 : decode cX11_rule 26 = .ok (.iload_n 2, 1) := by decide +kernel
theorem dX11_rule_27 : decode cX11_rule 27 = .ok (.iconst 1, 1) := by decide +kernel
theorem dX11_rule_28 : decode cX11_rule 28 = .ok (.if_icmp .ne 11, 3) := by decide +kernel
theorem dX11_rule_31 : decode cX11_rule 31 = .ok (.aload_n 0, 1) := by decide +kernel
theorem dX11_rule_32 : decode cX11_rule 32 = .ok (.iload_n 1, 1) := by decide +kernel
theorem dX11_rule_33 : decode cX11_rule 33 = .ok (.invokevirtual 152, 3) := by decide +kernel
theorem dX11_rule_36 : decode cX11_rule 36 = .ok (.goto 4, 3) := by decide +kernel
theorem dX11_rule_39 : decode cX11_rule 39 = .ok (.iconst (-1), 1) := by decide +kernel
theorem dX11_rule_40 : decode cX11_rule 40 = .ok (.ireturn, 1) := by decide +kernel
theorem dX11_minutes_0 : decode cX11_minutes 0 = .ok (.aload_n 0, 1) := by decide +kernel
theorem dX11_minutes_1 : decode cX11_minutes 1 = .ok (.getfield 24, 3) := by decide +kernel
theorem dX11_minutes_4 : decode cX11_minutes 4 = .ok (.bipush 8, 2) := by decide +kernel
theorem dX11_minutes_6 : decode cX11_minutes 6 = .ok (.iload_n 1, 1) := by decide +kernel
theorem dX11_minutes_7 : decode cX11_minutes 7 = .ok (.imul, 1) := by decide +kernel
theorem dX11_minutes_8 : decode cX11_minutes 8 = .ok (.iload_n 2, 1) := by decide +kernel
theorem dX11_minutes_9 : decode cX11_minutes 9 = .ok (.iadd, 1) := by decide +kernel
theorem dX11_minutes_10 : decode cX11_minutes 10 = .ok (.iaload, 1) := by decide +kernel
theorem dX11_minutes_11 : decode cX11_minutes 11 = .ok (.ireturn, 1) := by decide +kernel
theorem dX11_areTwo_0 : decode cX11_areTwo 0 = .ok (.iload_n 0, 1) := by decide +kernel
theorem dX11_areTwo_1 : decode cX11_areTwo 1 = .ok (.iconst 0, 1) := by decide +kernel
theorem dX11_areTwo_2 : decode cX11_areTwo 2 = .ok (.bipush 7, 2) := by decide +kernel
theorem dX11_areTwo_4 : decode cX11_areTwo 4 = .ok (.invokestatic 141, 3) := by decide +kernel
theorem dX11_areTwo_7 : decode cX11_areTwo 7 = .ok (.ifCond .eq 22, 3) := by decide +kernel
theorem dX11_areTwo_10 : decode cX11_areTwo 10 = .ok (.iload_n 1, 1) := by decide +kernel
theorem dX11_areTwo_11 : decode cX11_areTwo 11 = .ok (.iconst 0, 1) := by decide +kernel
theorem dX11_areTwo_12 : decode cX11_areTwo 12 = .ok (.bipush 7, 2) := by decide +kernel
theorem dX11_areTwo_14 : decode cX11_areTwo 14 = .ok (.invokestatic 141, 3) := by decide +kernel
theorem dX11_areTwo_17 : decode cX11_areTwo 17 = .ok (.ifCond .eq 12, 3) := by decide +kernel
theorem dX11_areTwo_20 : decode cX11_areTwo 20 = .ok (.iload_n 0, 1) := by decide +kernel
theorem dX11_areTwo_21 : decode cX11_areTwo 21 = .ok (.iload_n 1, 1) := by decide +kernel
theorem dX11_areTwo_22 : decode cX11_areTwo 22 = .ok (.if_icmp .eq 7, 3) := by decide +kernel
theorem dX11_areTwo_25 : decode cX11_areTwo 25 = .ok (.iconst 1, 1) := by decide +kernel
theorem dX11_areTwo_26 : decode cX11_areTwo 26 = .ok (.goto 4, 3) := by decide +kernel
theorem dX11_areTwo_29 : decode cX11_areTwo 29 = .ok (.iconst 0, 1) := by decide +kernel
theorem dX11_areTwo_30 : decode cX11_areTwo 30 = .ok (.ireturn, 1) := by decide +kernel
theorem dX11_way_0 : decode cX11_way 0 = .ok (.iload_n 1, 1) := by decide +kernel
theorem dX11_way_1 : decode cX11_way 1 = .ok (.iload_n 2, 1) := by decide +kernel
theorem dX11_way_2 : decode cX11_way 2 = .ok (.invokestatic 155, 3) := by decide +kernel
theorem dX11_way_5 : decode cX11_way 5 = .ok (.ifCond .eq 19, 3) := by decide +kernel
theorem dX11_way_8 : decode cX11_way 8 = .ok (.iload_n 3, 1) := by decide +kernel
theorem dX11_way_9 : decode cX11_way 9 = .ok (.ifCond .eq 17, 3) := by decide +kernel
theorem dX11_way_12 : decode cX11_way 12 = .ok (.iload_n 3, 1) := by decide +kernel
theorem dX11_way_13 : decode cX11_way 13 = .ok (.bipush 10, 2) := by decide +kernel
theorem dX11_way_15 : decode cX11_way 15 = .ok (.sipush 600, 3) := by decide +kernel
theorem dX11_way_18 : decode cX11_way 18 = .ok (.invokestatic 141, 3) := by decide +kernel
theorem dX11_way_21 : decode cX11_way 21 = .ok (.ifCond .ne 5, 3) := by decide +kernel
theorem dX11_way_24 : decode cX11_way 24 = .ok (.iconst 0, 1) := by decide +kernel
theorem dX11_way_25 : decode cX11_way 25 = .ok (.ireturn, 1) := by decide +kernel
theorem dX11_way_26 : decode cX11_way 26 = .ok (.iconst 0, 1) := by decide +kernel
theorem dX11_way_27 : decode cX11_way 27 = .ok (.istore 4, 2) := by decide +kernel
theorem dX11_way_29 : decode cX11_way 29 = .ok (.iload 4, 2) := by decide +kernel
theorem dX11_way_31 : decode cX11_way 31 = .ok (.aload_n 0, 1) := by decide +kernel
theorem dX11_way_32 : decode cX11_way 32 = .ok (.getfield 159, 3) := by decide +kernel
theorem dX11_way_35 : decode cX11_way 35 = .ok (.if_icmp .ge 69, 3) := by decide +kernel
theorem dX11_way_38 : decode cX11_way 38 = .ok (.iload_n 3, 1) := by decide +kernel
theorem dX11_way_39 : decode cX11_way 39 = .ok (.ifCond .ne 65, 3) := by decide +kernel
theorem dX11_way_42 : decode cX11_way 42 = .ok (.aload_n 0, 1) := by decide +kernel
theorem dX11_way_43 : decode cX11_way 43 = .ok (.getfield 51, 3) := by decide +kernel
theorem dX11_way_46 : decode cX11_way 46 = .ok (.iload 4, 2) := by decide +kernel
theorem dX11_way_48 : decode cX11_way 48 = .ok (.baload, 1) := by decide +kernel
theorem dX11_way_49 : decode cX11_way 49 = .ok (.ifCond .ne 49, 3) := by decide +kernel
theorem dX11_way_52 : decode cX11_way 52 = .ok (.aload_n 0, 1) := by decide +kernel
theorem dX11_way_53 : decode cX11_way 53 = .ok (.getfield 39, 3) := by decide +kernel
theorem dX11_way_56 : decode cX11_way 56 = .ok (.iload 4, 2) := by decide +kernel
theorem dX11_way_58 : decode cX11_way 58 = .ok (.iaload, 1) := by decide +kernel
theorem dX11_way_59 : decode cX11_way 59 = .ok (.iload_n 1, 1) := by decide +kernel
theorem dX11_way_60 : decode cX11_way 60 = .ok (.if_icmp .ne 14, 3) := by decide +kernel
theorem dX11_way_63 : decode cX11_way 63 = .ok (.aload_n 0, 1) := by decide +kernel
theorem dX11_way_64 : decode cX11_way 64 = .ok (.getfield 42, 3) := by decide +kernel
theorem dX11_way_67 : decode cX11_way 67 = .ok (.iload 4, 2) := by decide +kernel
theorem dX11_way_69 : decode cX11_way 69 = .ok (.iaload, 1) := by decide +kernel
theorem dX11_way_70 : decode cX11_way 70 = .ok (.iload_n 2, 1) := by decide +kernel
theorem dX11_way_71 : decode cX11_way 71 = .ok (.if_icmp .eq 25, 3) := by decide +kernel
theorem dX11_way_74 : decode cX11_way 74 = .ok (.aload_n 0, 1) := by decide +kernel
theorem dX11_way_75 : decode cX11_way 75 = .ok (.getfield 39, 3) := by decide +kernel
theorem dX11_way_78 : decode cX11_way 78 = .ok (.iload 4, 2) := by decide +kernel
theorem dX11_way_80 : decode cX11_way 80 = .ok (.iaload, 1) := by decide +kernel
theorem dX11_way_81 : decode cX11_way 81 = .ok (.iload_n 2, 1) := by decide +kernel
theorem dX11_way_82 : decode cX11_way 82 = .ok (.if_icmp .ne 16, 3) := by decide +kernel
theorem dX11_way_85 : decode cX11_way 85 = .ok (.aload_n 0, 1) := by decide +kernel
theorem dX11_way_86 : decode cX11_way 86 = .ok (.getfield 42, 3) := by decide +kernel
theorem dX11_way_89 : decode cX11_way 89 = .ok (.iload 4, 2) := by decide +kernel
theorem dX11_way_91 : decode cX11_way 91 = .ok (.iaload, 1) := by decide +kernel
theorem dX11_way_92 : decode cX11_way 92 = .ok (.iload_n 1, 1) := by decide +kernel
theorem dX11_way_93 : decode cX11_way 93 = .ok (.if_icmp .ne 5, 3) := by decide +kernel
theorem dX11_way_96 : decode cX11_way 96 = .ok (.iconst 0, 1) := by decide +kernel
theorem dX11_way_97 : decode cX11_way 97 = .ok (.ireturn, 1) := by decide +kernel
theorem dX11_way_98 : decode cX11_way 98 = .ok (.iinc 4 1, 3) := by decide +kernel
theorem dX11_way_101 : decode cX11_way 101 = .ok (.goto (-72), 3) := by decide +kernel
theorem dX11_way_104 : decode cX11_way 104 = .ok (.aload_n 0, 1) := by decide +kernel
theorem dX11_way_105 : decode cX11_way 105 = .ok (.getfield 24, 3) := by decide +kernel
theorem dX11_way_108 : decode cX11_way 108 = .ok (.bipush 8, 2) := by decide +kernel
theorem dX11_way_110 : decode cX11_way 110 = .ok (.iload_n 1, 1) := by decide +kernel
theorem dX11_way_111 : decode cX11_way 111 = .ok (.imul, 1) := by decide +kernel
theorem dX11_way_112 : decode cX11_way 112 = .ok (.iload_n 2, 1) := by decide +kernel
theorem dX11_way_113 : decode cX11_way 113 = .ok (.iadd, 1) := by decide +kernel
theorem dX11_way_114 : decode cX11_way 114 = .ok (.iload_n 3, 1) := by decide +kernel
theorem dX11_way_115 : decode cX11_way 115 = .ok (.iastore, 1) := by decide +kernel
theorem dX11_way_116 : decode cX11_way 116 = .ok (.aload_n 0, 1) := by decide +kernel
theorem dX11_way_117 : decode cX11_way 117 = .ok (.getfield 24, 3) := by decide +kernel
theorem dX11_way_120 : decode cX11_way 120 = .ok (.bipush 8, 2) := by decide +kernel
theorem dX11_way_122 : decode cX11_way 122 = .ok (.iload_n 2, 1) := by decide +kernel
theorem dX11_way_123 : decode cX11_way 123 = .ok (.imul, 1) := by decide +kernel
theorem dX11_way_124 : decode cX11_way 124 = .ok (.iload_n 1, 1) := by decide +kernel
theorem dX11_way_125 : decode cX11_way 125 = .ok (.iadd, 1) := by decide +kernel
theorem dX11_way_126 : decode cX11_way 126 = .ok (.iload_n 3, 1) := by decide +kernel
theorem dX11_way_127 : decode cX11_way 127 = .ok (.iastore, 1) := by decide +kernel
theorem dX11_way_128 : decode cX11_way 128 = .ok (.iconst 1, 1) := by decide +kernel
theorem dX11_way_129 : decode cX11_way 129 = .ok (.ireturn, 1) := by decide +kernel
theorem dX11_plane_0 : decode cX11_plane 0 = .ok (.aload_n 0, 1) := by decide +kernel
theorem dX11_plane_1 : decode cX11_plane 1 = .ok (.getfield 162, 3) := by decide +kernel
theorem dX11_plane_4 : decode cX11_plane 4 = .ok (.iconst 4, 1) := by decide +kernel
theorem dX11_plane_5 : decode cX11_plane 5 = .ok (.if_icmp .eq 46, 3) := by decide +kernel
theorem dX11_plane_8 : decode cX11_plane 8 = .ok (.iload_n 1, 1) := by decide +kernel
theorem dX11_plane_9 : decode cX11_plane 9 = .ok (.iconst 0, 1) := by decide +kernel
theorem dX11_plane_10 : decode cX11_plane 10 = .ok (.bipush 7, 2) := by decide +kernel
theorem dX11_plane_12 : decode cX11_plane 12 = .ok (.invokestatic 141, 3) := by decide +kernel
theorem dX11_plane_15 : decode cX11_plane 15 = .ok (.ifCond .eq 36, 3) := by decide +kernel
theorem dX11_plane_18 : decode cX11_plane 18 = .ok (.iload_n 2, 1) := by decide +kernel
theorem dX11_plane_19 : decode cX11_plane 19 = .ok (.iconst 1, 1) := by decide +kernel
theorem dX11_plane_20 : decode cX11_plane 20 = .ok (.bipush 30, 2) := by decide +kernel
theorem dX11_plane_22 : decode cX11_plane 22 = .ok (.invokestatic 141, 3) := by decide +kernel
theorem dX11_plane_25 : decode cX11_plane 25 = .ok (.ifCond .eq 26, 3) := by decide +kernel
theorem dX11_plane_28 : decode cX11_plane 28 = .ok (.iload_n 3, 1) := by decide +kernel
theorem dX11_plane_29 : decode cX11_plane 29 = .ok (.iconst 0, 1) := by decide +kernel
theorem dX11_plane_30 : decode cX11_plane 30 = .ok (.sipush 180, 3) := by decide +kernel
theorem dX11_plane_33 : decode cX11_plane 33 = .ok (.invokestatic 141, 3) := by decide +kernel
theorem dX11_plane_36 : decode cX11_plane 36 = .ok (.ifCond .eq 15, 3) := by decide +kernel
theorem dX11_plane_39 : decode cX11_plane 39 = .ok (.iload 4, 2) := by decide +kernel
theorem dX11_plane_41 : decode cX11_plane 41 = .ok (.iconst 1, 1) := by decide +kernel
theorem dX11_plane_42 : decode cX11_plane 42 = .ok (.sipush 1000, 3) := by decide +kernel
theorem dX11_plane_45 : decode cX11_plane 45 = .ok (.invokestatic 141, 3) := by decide +kernel
theorem dX11_plane_48 : decode cX11_plane 48 = .ok (.ifCond .ne 5, 3) := by decide +kernel
theorem dX11_plane_51 : decode cX11_plane 51 = .ok (.iconst (-1), 1) := by decide +kernel
theorem dX11_plane_52 : decode cX11_plane 52 = .ok (.ireturn, 1) := by decide +kernel
theorem dX11_plane_53 : decode cX11_plane 53 = .ok (.aload_n 0, 1) := by decide +kernel
theorem dX11_plane_54 : decode cX11_plane 54 = .ok (.getfield 27, 3) := by decide +kernel
theorem dX11_plane_57 : decode cX11_plane 57 = .ok (.aload_n 0, 1) := by decide +kernel
theorem dX11_plane_58 : decode cX11_plane 58 = .ok (.getfield 162, 3) := by decide +kernel
theorem dX11_plane_61 : decode cX11_plane 61 = .ok (.iload_n 1, 1) := by decide +kernel
theorem dX11_plane_62 : decode cX11_plane 62 = .ok (.iastore, 1) := by decide +kernel
theorem dX11_plane_63 : decode cX11_plane 63 = .ok (.aload_n 0, 1) := by decide +kernel
theorem dX11_plane_64 : decode cX11_plane 64 = .ok (.getfield 30, 3) := by decide +kernel
theorem dX11_plane_67 : decode cX11_plane 67 = .ok (.aload_n 0, 1) := by decide +kernel
theorem dX11_plane_68 : decode cX11_plane 68 = .ok (.getfield 162, 3) := by decide +kernel
theorem dX11_plane_71 : decode cX11_plane 71 = .ok (.iload_n 2, 1) := by decide +kernel
theorem dX11_plane_72 : decode cX11_plane 72 = .ok (.iastore, 1) := by decide +kernel
theorem dX11_plane_73 : decode cX11_plane 73 = .ok (.aload_n 0, 1) := by decide +kernel
theorem dX11_plane_74 : decode cX11_plane 74 = .ok (.getfield 33, 3) := by decide +kernel
theorem dX11_plane_77 : decode cX11_plane 77 = .ok (.aload_n 0, 1) := by decide +kernel
theorem dX11_plane_78 : decode cX11_plane 78 = .ok (.getfield 162, 3) := by decide +kernel
theorem dX11_plane_81 : decode cX11_plane 81 = .ok (.iload_n 3, 1) := by decide +kernel
theorem dX11_plane_82 : decode cX11_plane 82 = .ok (.iastore, 1) := by decide +kernel
theorem dX11_plane_83 : decode cX11_plane 83 = .ok (.aload_n 0, 1) := by decide +kernel
theorem dX11_plane_84 : decode cX11_plane 84 = .ok (.getfield 36, 3) := by decide +kernel
theorem dX11_plane_87 : decode cX11_plane 87 = .ok (.aload_n 0, 1) := by decide +kernel
theorem dX11_plane_88 : decode cX11_plane 88 = .ok (.getfield 162, 3) := by decide +kernel
theorem dX11_plane_91 : decode cX11_plane 91 = .ok (.iload 4, 2) := by decide +kernel
theorem dX11_plane_93 : decode cX11_plane 93 = .ok (.iastore, 1) := by decide +kernel
theorem dX11_plane_94 : decode cX11_plane 94 = .ok (.aload_n 0, 1) := by decide +kernel
theorem dX11_plane_95 : decode cX11_plane 95 = .ok (.dup, 1) := by decide +kernel
theorem dX11_plane_96 : decode cX11_plane 96 = .ok (.getfield 162, 3) := by decide +kernel
theorem dX11_plane_99 : decode cX11_plane 99 = .ok (.iconst 1, 1) := by decide +kernel
theorem dX11_plane_100 : decode cX11_plane 100 = .ok (.iadd, 1) := by decide +kernel
theorem dX11_plane_101 : decode cX11_plane 101 = .ok (.putfield 162, 3) := by decide +kernel
theorem dX11_plane_104 : decode cX11_plane 104 = .ok (.aload_n 0, 1) := by decide +kernel
theorem dX11_plane_105 : decode cX11_plane 105 = .ok (.getfield 162, 3) := by decide +kernel
theorem dX11_plane_108 : decode cX11_plane 108 = .ok (.iconst 1, 1) := by decide +kernel
theorem dX11_plane_109 : decode cX11_plane 109 = .ok (.isub, 1) := by decide +kernel
theorem dX11_plane_110 : decode cX11_plane 110 = .ok (.ireturn, 1) := by decide +kernel
theorem dX11_there_0 : decode cX11_there 0 = .ok (.iconst 0, 1) := by decide +kernel
theorem dX11_there_1 : decode cX11_there 1 = .ok (.istore_n 1, 1) := by decide +kernel
theorem dX11_there_2 : decode cX11_there 2 = .ok (.iconst 0, 1) := by decide +kernel
theorem dX11_there_3 : decode cX11_there 3 = .ok (.istore_n 2, 1) := by decide +kernel
theorem dX11_there_4 : decode cX11_there 4 = .ok (.iload_n 2, 1) := by decide +kernel
theorem dX11_there_5 : decode cX11_there 5 = .ok (.aload_n 0, 1) := by decide +kernel
theorem dX11_there_6 : decode cX11_there 6 = .ok (.getfield 159, 3) := by decide +kernel
theorem dX11_there_9 : decode cX11_there 9 = .ok (.if_icmp .ge 26, 3) := by decide +kernel
theorem dX11_there_12 : decode cX11_there 12 = .ok (.iload_n 1, 1) := by decide +kernel
theorem dX11_there_13 : decode cX11_there 13 = .ok (.aload_n 0, 1) := by decide +kernel
theorem dX11_there_14 : decode cX11_there 14 = .ok (.getfield 51, 3) := by decide +kernel
theorem dX11_there_17 : decode cX11_there 17 = .ok (.iload_n 2, 1) := by decide +kernel
theorem dX11_there_18 : decode cX11_there 18 = .ok (.baload, 1) := by decide +kernel
theorem dX11_there_19 : decode cX11_there 19 = .ok (.ifCond .eq 7, 3) := by decide +kernel
theorem dX11_there_22 : decode cX11_there 22 = .ok (.iconst 0, 1) := by decide +kernel
theorem dX11_there_23 : decode cX11_there 23 = .ok (.goto 4, 3) := by decide +kernel
theorem dX11_there_26 : decode cX11_there 26 = .ok (.iconst 1, 1) := by decide +kernel
theorem dX11_there_27 : decode cX11_there 27 = .ok (.iadd, 1) := by decide +kernel
theorem dX11_there_28 : decode cX11_there 28 = .ok (.istore_n 1, 1) := by decide +kernel
theorem dX11_there_29 : decode cX11_there 29 = .ok (.iinc 2 1, 3) := by decide +kernel
theorem dX11_there_32 : decode cX11_there 32 = .ok (.goto (-28), 3) := by decide +kernel
theorem dX11_there_35 : decode cX11_there 35 = .ok (.iload_n 1, 1) := by decide +kernel
theorem dX11_there_36 : decode cX11_there 36 = .ok (.ireturn, 1) := by decide +kernel
theorem dX11_flight_0 : decode cX11_flight 0 = .ok (.iload_n 1, 1) := by decide +kernel
theorem dX11_flight_1 : decode cX11_flight 1 = .ok (.iload_n 2, 1) := by decide +kernel
theorem dX11_flight_2 : decode cX11_flight 2 = .ok (.invokestatic 155, 3) := by decide +kernel
theorem dX11_flight_5 : decode cX11_flight 5 = .ok (.ifCond .eq 52, 3) := by decide +kernel
theorem dX11_flight_8 : decode cX11_flight 8 = .ok (.aload_n 0, 1) := by decide +kernel
theorem dX11_flight_9 : decode cX11_flight 9 = .ok (.iload_n 1, 1) := by decide +kernel
theorem dX11_flight_10 : decode cX11_flight 10 = .ok (.iload_n 2, 1) := by decide +kernel
theorem dX11_flight_11 : decode cX11_flight 11 = .ok (.invokevirtual 165, 3) := by decide +kernel
theorem dX11_flight_14 : decode cX11_flight 14 = .ok (.ifCond .eq 43, 3) := by decide +kernel
theorem dX11_flight_17 : decode cX11_flight 17 = .ok (.iload_n 3, 1) := by decide +kernel
theorem dX11_flight_18 : decode cX11_flight 18 = .ok (.iconst 0, 1) := by decide +kernel
theorem dX11_flight_19 : decode cX11_flight 19 = .ok (.sipush 10079, 3) := by decide +kernel
theorem dX11_flight_22 : decode cX11_flight 22 = .ok (.invokestatic 141, 3) := by decide +kernel
theorem dX11_flight_25 : decode cX11_flight 25 = .ok (.ifCond .eq 32, 3) := by decide +kernel
theorem dX11_flight_28 : decode cX11_flight 28 = .ok (.iload 4, 2) := by decide +kernel
theorem dX11_flight_30 : decode cX11_flight 30 = .ok (.iconst 1, 1) := by decide +kernel
theorem dX11_flight_31 : decode cX11_flight 31 = .ok (.bipush 30, 2) := by decide +kernel
theorem dX11_flight_33 : decode cX11_flight 33 = .ok (.invokestatic 141, 3) := by decide +kernel
theorem dX11_flight_36 : decode cX11_flight 36 = .ok (.ifCond .eq 21, 3) := by decide +kernel
theorem dX11_flight_39 : decode cX11_flight 39 = .ok (.aload_n 0, 1) := by decide +kernel
theorem dX11_flight_40 : decode cX11_flight 40 = .ok (.getfield 159, 3) := by decide +kernel
theorem dX11_flight_43 : decode cX11_flight 43 = .ok (.bipush 20, 2) := by decide +kernel
theorem dX11_flight_45 : decode cX11_flight 45 = .ok (.if_icmp .eq 12, 3) := by decide +kernel
theorem dX11_flight_48 : decode cX11_flight 48 = .ok (.aload_n 0, 1) := by decide +kernel
theorem dX11_flight_49 : decode cX11_flight 49 = .ok (.invokevirtual 168, 3) := by decide +kernel
theorem dX11_flight_52 : decode cX11_flight 52 = .ok (.bipush 8, 2) := by decide +kernel
theorem dX11_flight_54 : decode cX11_flight 54 = .ok (.if_icmp .ne 5, 3) := by decide +kernel
theorem dX11_flight_57 : decode cX11_flight 57 = .ok (.iconst (-1), 1) := by decide +kernel
theorem dX11_flight_58 : decode cX11_flight 58 = .ok (.ireturn, 1) := by decide +kernel
theorem dX11_flight_59 : decode cX11_flight 59 = .ok (.aload_n 0, 1) := by decide +kernel
theorem dX11_flight_60 : decode cX11_flight 60 = .ok (.getfield 39, 3) := by decide +kernel
theorem dX11_flight_63 : decode cX11_flight 63 = .ok (.aload_n 0, 1) := by decide +kernel
theorem dX11_flight_64 : decode cX11_flight 64 = .ok (.getfield 159, 3) := by decide +kernel
theorem dX11_flight_67 : decode cX11_flight 67 = .ok (.iload_n 1, 1) := by decide +kernel
theorem dX11_flight_68 : decode cX11_flight 68 = .ok (.iastore, 1) := by decide +kernel
theorem dX11_flight_69 : decode cX11_flight 69 = .ok (.aload_n 0, 1) := by decide +kernel
theorem dX11_flight_70 : decode cX11_flight 70 = .ok (.getfield 42, 3) := by decide +kernel
theorem dX11_flight_73 : decode cX11_flight 73 = .ok (.aload_n 0, 1) := by decide +kernel
theorem dX11_flight_74 : decode cX11_flight 74 = .ok (.getfield 159, 3) := by decide +kernel
theorem dX11_flight_77 : decode cX11_flight 77 = .ok (.iload_n 2, 1) := by decide +kernel
theorem dX11_flight_78 : decode cX11_flight 78 = .ok (.iastore, 1) := by decide +kernel
theorem dX11_flight_79 : decode cX11_flight 79 = .ok (.aload_n 0, 1) := by decide +kernel
theorem dX11_flight_80 : decode cX11_flight 80 = .ok (.getfield 45, 3) := by decide +kernel
theorem dX11_flight_83 : decode cX11_flight 83 = .ok (.aload_n 0, 1) := by decide +kernel
theorem dX11_flight_84 : decode cX11_flight 84 = .ok (.getfield 159, 3) := by decide +kernel
theorem dX11_flight_87 : decode cX11_flight 87 = .ok (.iload_n 3, 1) := by decide +kernel
theorem dX11_flight_88 : decode cX11_flight 88 = .ok (.iastore, 1) := by decide +kernel
theorem dX11_flight_89 : decode cX11_flight 89 = .ok (.aload_n 0, 1) := by decide +kernel
theorem dX11_flight_90 : decode cX11_flight 90 = .ok (.getfield 48, 3) := by decide +kernel
theorem dX11_flight_93 : decode cX11_flight 93 = .ok (.aload_n 0, 1) := by decide +kernel
theorem dX11_flight_94 : decode cX11_flight 94 = .ok (.getfield 159, 3) := by decide +kernel
theorem dX11_flight_97 : decode cX11_flight 97 = .ok (.iload 4, 2) := by decide +kernel
theorem dX11_flight_99 : decode cX11_flight 99 = .ok (.iastore, 1) := by decide +kernel
theorem dX11_flight_100 : decode cX11_flight 100 = .ok (.aload_n 0, 1) := by decide +kernel
theorem dX11_flight_101 : decode cX11_flight 101 = .ok (.getfield 54, 3) := by decide +kernel
theorem dX11_flight_104 : decode cX11_flight 104 = .ok (.aload_n 0, 1) := by decide +kernel
theorem dX11_flight_105 : decode cX11_flight 105 = .ok (.getfield 159, 3) := by decide +kernel
theorem dX11_flight_108 : decode cX11_flight 108 = .ok (.iconst (-1), 1) := by decide +kernel
theorem dX11_flight_109 : decode cX11_flight 109 = .ok (.iastore, 1) := by decide +kernel
theorem dX11_flight_110 : decode cX11_flight 110 = .ok (.aload_n 0, 1) := by decide +kernel
theorem dX11_flight_111 : decode cX11_flight 111 = .ok (.dup, 1) := by decide +kernel
theorem dX11_flight_112 : decode cX11_flight 112 = .ok (.getfield 159, 3) := by decide +kernel
theorem dX11_flight_115 : decode cX11_flight 115 = .ok (.iconst 1, 1) := by decide +kernel
theorem dX11_flight_116 : decode cX11_flight 116 = .ok (.iadd, 1) := by decide +kernel
theorem dX11_flight_117 : decode cX11_flight 117 = .ok (.putfield 159, 3) := by decide +kernel
theorem dX11_flight_120 : decode cX11_flight 120 = .ok (.aload_n 0, 1) := by decide +kernel
theorem dX11_flight_121 : decode cX11_flight 121 = .ok (.getfield 159, 3) := by decide +kernel
theorem dX11_flight_124 : decode cX11_flight 124 = .ok (.iconst 1, 1) := by decide +kernel
theorem dX11_flight_125 : decode cX11_flight 125 = .ok (.isub, 1) := by decide +kernel
theorem dX11_flight_126 : decode cX11_flight 126 = .ok (.ireturn, 1) := by decide +kernel
theorem dX11_isFlight_0 : decode cX11_isFlight 0 = .ok (.iload_n 1, 1) := by decide +kernel
theorem dX11_isFlight_1 : decode cX11_isFlight 1 = .ok (.iconst 0, 1) := by decide +kernel
theorem dX11_isFlight_2 : decode cX11_isFlight 2 = .ok (.aload_n 0, 1) := by decide +kernel
theorem dX11_isFlight_3 : decode cX11_isFlight 3 = .ok (.getfield 159, 3) := by decide +kernel
theorem dX11_isFlight_6 : decode cX11_isFlight 6 = .ok (.iconst 1, 1) := by decide +kernel
theorem dX11_isFlight_7 : decode cX11_isFlight 7 = .ok (.isub, 1) := by decide +kernel
theorem dX11_isFlight_8 : decode cX11_isFlight 8 = .ok (.invokestatic 141, 3) := by decide +kernel
theorem dX11_isFlight_11 : decode cX11_isFlight 11 = .ok (.ireturn, 1) := by decide +kernel
theorem dX11_cancel_0 : decode cX11_cancel 0 = .ok (.aload_n 0, 1) := by decide +kernel
theorem dX11_cancel_1 : decode cX11_cancel 1 = .ok (.iload_n 1, 1) := by decide +kernel
theorem dX11_cancel_2 : decode cX11_cancel 2 = .ok (.invokevirtual 172, 3) := by decide +kernel
theorem dX11_cancel_5 : decode cX11_cancel 5 = .ok (.ifCond .eq 12, 3) := by decide +kernel
theorem dX11_cancel_8 : decode cX11_cancel 8 = .ok (.aload_n 0, 1) := by decide +kernel
theorem dX11_cancel_9 : decode cX11_cancel 9 = .ok (.getfield 51, 3) := by decide +kernel
theorem dX11_cancel_12 : decode cX11_cancel 12 = .ok (.iload_n 1, 1) := by decide +kernel
theorem dX11_cancel_13 : decode cX11_cancel 13 = .ok (.baload, 1) := by decide +kernel
theorem dX11_cancel_14 : decode cX11_cancel 14 = .ok (.ifCond .eq 5, 3) := by decide +kernel
theorem dX11_cancel_17 : decode cX11_cancel 17 = .ok (.iconst 0, 1) := by decide +kernel
theorem dX11_cancel_18 : decode cX11_cancel 18 = .ok (.ireturn, 1) := by decide +kernel
theorem dX11_cancel_19 : decode cX11_cancel 19 = .ok (.aload_n 0, 1) := by decide +kernel
theorem dX11_cancel_20 : decode cX11_cancel 20 = .ok (.getfield 51, 3) := by decide +kernel
theorem dX11_cancel_23 : decode cX11_cancel 23 = .ok (.iload_n 1, 1) := by decide +kernel
theorem dX11_cancel_24 : decode cX11_cancel 24 = .ok (.iconst 1, 1) := by decide +kernel
theorem dX11_cancel_25 : decode cX11_cancel 25 = .ok (.bastore, 1) := by decide +kernel
theorem dX11_cancel_26 : decode cX11_cancel 26 = .ok (.aload_n 0, 1) := by decide +kernel
theorem dX11_cancel_27 : decode cX11_cancel 27 = .ok (.getfield 54, 3) := by decide +kernel
theorem dX11_cancel_30 : decode cX11_cancel 30 = .ok (.iload_n 1, 1) := by decide +kernel
theorem dX11_cancel_31 : decode cX11_cancel 31 = .ok (.iconst (-1), 1) := by decide +kernel
theorem dX11_cancel_32 : decode cX11_cancel 32 = .ok (.iastore, 1) := by decide +kernel
theorem dX11_cancel_33 : decode cX11_cancel 33 = .ok (.aload_n 0, 1) := by decide +kernel
theorem dX11_cancel_34 : decode cX11_cancel 34 = .ok (.invokevirtual 176, 3) := by decide +kernel
theorem dX11_cancel_37 : decode cX11_cancel 37 = .ok (.iconst 1, 1) := by decide +kernel
theorem dX11_cancel_38 : decode cX11_cancel 38 = .ok (.ireturn, 1) := by decide +kernel
theorem dX11_storm_0 : decode cX11_storm 0 = .ok (.aload_n 0, 1) := by decide +kernel
theorem dX11_storm_1 : decode cX11_storm 1 = .ok (.getfield 179, 3) := by decide +kernel
theorem dX11_storm_4 : decode cX11_storm 4 = .ok (.bipush 20, 2) := by decide +kernel
theorem dX11_storm_6 : decode cX11_storm 6 = .ok (.if_icmp .eq 37, 3) := by decide +kernel
theorem dX11_storm_9 : decode cX11_storm 9 = .ok (.iload_n 1, 1) := by decide +kernel
theorem dX11_storm_10 : decode cX11_storm 10 = .ok (.iconst 0, 1) := by decide +kernel
theorem dX11_storm_11 : decode cX11_storm 11 = .ok (.bipush 7, 2) := by decide +kernel
theorem dX11_storm_13 : decode cX11_storm 13 = .ok (.invokestatic 141, 3) := by decide +kernel
theorem dX11_storm_16 : decode cX11_storm 16 = .ok (.ifCond .eq 27, 3) := by decide +kernel
theorem dX11_storm_19 : decode cX11_storm 19 = .ok (.iload_n 2, 1) := by decide +kernel
theorem dX11_storm_20 : decode cX11_storm 20 = .ok (.iconst 0, 1) := by decide +kernel
theorem dX11_storm_21 : decode cX11_storm 21 = .ok (.sipush 10079, 3) := by decide +kernel
theorem dX11_storm_24 : decode cX11_storm 24 = .ok (.invokestatic 141, 3) := by decide +kernel
theorem dX11_storm_27 : decode cX11_storm 27 = .ok (.ifCond .eq 16, 3) := by decide +kernel
theorem dX11_storm_30 : decode cX11_storm 30 = .ok (.iload_n 3, 1) := by decide +kernel
theorem dX11_storm_31 : decode cX11_storm 31 = .ok (.iload_n 2, 1) := by decide +kernel
theorem dX11_storm_32 : decode cX11_storm 32 = .ok (.iconst 1, 1) := by decide +kernel
theorem dX11_storm_33 : decode cX11_storm 33 = .ok (.iadd, 1) := by decide +kernel
theorem dX11_storm_34 : decode cX11_storm 34 = .ok (.sipush 10080, 3) := by decide +kernel
theorem dX11_storm_37 : decode cX11_storm 37 = .ok (.invokestatic 141, 3) := by decide +kernel
theorem dX11_storm_40 : decode cX11_storm 40 = .ok (.ifCond .ne 5, 3) := by decide +kernel
theorem dX11_storm_43 : decode cX11_storm 43 = .ok (.iconst (-1), 1) := by decide +kernel
theorem dX11_storm_44 : decode cX11_storm 44 = .ok (.ireturn, 1) := by decide +kernel
theorem dX11_storm_45 : decode cX11_storm 45 = .ok (.aload_n 0, 1) := by decide +kernel
theorem dX11_storm_46 : decode cX11_storm 46 = .ok (.getfield 57, 3) := by decide +kernel
theorem dX11_storm_49 : decode cX11_storm 49 = .ok (.aload_n 0, 1) := by decide +kernel
theorem dX11_storm_50 : decode cX11_storm 50 = .ok (.getfield 179, 3) := by decide +kernel
theorem dX11_storm_53 : decode cX11_storm 53 = .ok (.iload_n 1, 1) := by decide +kernel
theorem dX11_storm_54 : decode cX11_storm 54 = .ok (.iastore, 1) := by decide +kernel
theorem dX11_storm_55 : decode cX11_storm 55 = .ok (.aload_n 0, 1) := by decide +kernel
theorem dX11_storm_56 : decode cX11_storm 56 = .ok (.getfield 60, 3) := by decide +kernel
theorem dX11_storm_59 : decode cX11_storm 59 = .ok (.aload_n 0, 1) := by decide +kernel
theorem dX11_storm_60 : decode cX11_storm 60 = .ok (.getfield 179, 3) := by decide +kernel
theorem dX11_storm_63 : decode cX11_storm 63 = .ok (.iload_n 2, 1) := by decide +kernel
theorem dX11_storm_64 : decode cX11_storm 64 = .ok (.iastore, 1) := by decide +kernel
theorem dX11_storm_65 : decode cX11_storm 65 = .ok (.aload_n 0, 1) := by decide +kernel
theorem dX11_storm_66 : decode cX11_storm 66 = .ok (.getfield 63, 3) := by decide +kernel
theorem dX11_storm_69 : decode cX11_storm 69 = .ok (.aload_n 0, 1) := by decide +kernel
theorem dX11_storm_70 : decode cX11_storm 70 = .ok (.getfield 179, 3) := by decide +kernel
theorem dX11_storm_73 : decode cX11_storm 73 = .ok (.iload_n 3, 1) := by decide +kernel
theorem dX11_storm_74 : decode cX11_storm 74 = .ok (.iastore, 1) := by decide +kernel
theorem dX11_storm_75 : decode cX11_storm 75 = .ok (.aload_n 0, 1) := by decide +kernel
theorem dX11_storm_76 : decode cX11_storm 76 = .ok (.dup, 1) := by decide +kernel
theorem dX11_storm_77 : decode cX11_storm 77 = .ok (.getfield 179, 3) := by decide +kernel
theorem dX11_storm_80 : decode cX11_storm 80 = .ok (.iconst 1, 1) := by decide +kernel
theorem dX11_storm_81 : decode cX11_storm 81 = .ok (.iadd, 1) := by decide +kernel
theorem dX11_storm_82 : decode cX11_storm 82 = .ok (.putfield 179, 3) := by decide +kernel
theorem dX11_storm_85 : decode cX11_storm 85 = .ok (.aload_n 0, 1) := by decide +kernel
theorem dX11_storm_86 : decode cX11_storm 86 = .ok (.getfield 179, 3) := by decide +kernel
theorem dX11_storm_89 : decode cX11_storm 89 = .ok (.iconst 1, 1) := by decide +kernel
theorem dX11_storm_90 : decode cX11_storm 90 = .ok (.isub, 1) := by decide +kernel
theorem dX11_storm_91 : decode cX11_storm 91 = .ok (.ireturn, 1) := by decide +kernel
theorem dX11_clock_0 : decode cX11_clock 0 = .ok (.iload_n 1, 1) := by decide +kernel
theorem dX11_clock_1 : decode cX11_clock 1 = .ok (.aload_n 0, 1) := by decide +kernel
theorem dX11_clock_2 : decode cX11_clock 2 = .ok (.getfield 182, 3) := by decide +kernel
theorem dX11_clock_5 : decode cX11_clock 5 = .ok (.sipush 10079, 3) := by decide +kernel
theorem dX11_clock_8 : decode cX11_clock 8 = .ok (.invokestatic 141, 3) := by decide +kernel
theorem dX11_clock_11 : decode cX11_clock 11 = .ok (.ifCond .ne 5, 3) := by decide +kernel
theorem dX11_clock_14 : decode cX11_clock 14 = .ok (.iconst 0, 1) := by decide +kernel
theorem dX11_clock_15 : decode cX11_clock 15 = .ok (.ireturn, 1) := by decide +kernel
theorem dX11_clock_16 : decode cX11_clock 16 = .ok (.aload_n 0, 1) := by decide +kernel
theorem dX11_clock_17 : decode cX11_clock 17 = .ok (.iload_n 1, 1) := by decide +kernel
theorem dX11_clock_18 : decode cX11_clock 18 = .ok (.putfield 182, 3) := by decide +kernel
theorem dX11_clock_21 : decode cX11_clock 21 = .ok (.iconst 0, 1) := by decide +kernel
theorem dX11_clock_22 : decode cX11_clock 22 = .ok (.istore_n 2, 1) := by decide +kernel
theorem dX11_clock_23 : decode cX11_clock 23 = .ok (.iload_n 2, 1) := by decide +kernel
theorem dX11_clock_24 : decode cX11_clock 24 = .ok (.aload_n 0, 1) := by decide +kernel
theorem dX11_clock_25 : decode cX11_clock 25 = .ok (.getfield 185, 3) := by decide +kernel
theorem dX11_clock_28 : decode cX11_clock 28 = .ok (.if_icmp .ge 38, 3) := by decide +kernel
theorem dX11_clock_31 : decode cX11_clock 31 = .ok (.aload_n 0, 1) := by decide +kernel
theorem dX11_clock_32 : decode cX11_clock 32 = .ok (.getfield 66, 3) := by decide +kernel
theorem dX11_clock_35 : decode cX11_clock 35 = .ok (.iload_n 2, 1) := by decide +kernel
theorem dX11_clock_36 : decode cX11_clock 36 = .ok (.iaload, 1) := by decide +kernel
theorem dX11_clock_37 : decode cX11_clock 37 = .ok (.ifCond .ne 23, 3) := by decide +kernel
theorem dX11_clock_40 : decode cX11_clock 40 = .ok (.aload_n 0, 1) := by decide +kernel
theorem dX11_clock_41 : decode cX11_clock 41 = .ok (.getfield 72, 3) := by decide +kernel
theorem dX11_clock_44 : decode cX11_clock 44 = .ok (.iload_n 2, 1) := by decide +kernel
theorem dX11_clock_45 : decode cX11_clock 45 = .ok (.iaload, 1) := by decide +kernel
theorem dX11_clock_46 : decode cX11_clock 46 = .ok (.aload_n 0, 1) := by decide +kernel
theorem dX11_clock_47 : decode cX11_clock 47 = .ok (.getfield 182, 3) := by decide +kernel
theorem dX11_clock_50 : decode cX11_clock 50 = .ok (.if_icmp .ge 10, 3) := by decide +kernel
theorem dX11_clock_53 : decode cX11_clock 53 = .ok (.aload_n 0, 1) := by decide +kernel
theorem dX11_clock_54 : decode cX11_clock 54 = .ok (.getfield 66, 3) := by decide +kernel
theorem dX11_clock_57 : decode cX11_clock 57 = .ok (.iload_n 2, 1) := by decide +kernel
theorem dX11_clock_58 : decode cX11_clock 58 = .ok (.iconst 2, 1) := by decide +kernel
theorem dX11_clock_59 : decode cX11_clock 59 = .ok (.iastore, 1) := by decide +kernel
theorem dX11_clock_60 : decode cX11_clock 60 = .ok (.iinc 2 1, 3) := by decide +kernel
theorem dX11_clock_63 : decode cX11_clock 63 = .ok (.goto (-40), 3) := by decide +kernel
theorem dX11_clock_66 : decode cX11_clock 66 = .ok (.iconst 1, 1) := by decide +kernel
theorem dX11_clock_67 : decode cX11_clock 67 = .ok (.ireturn, 1) := by decide +kernel
theorem dX11_orders_0 : decode cX11_orders 0 = .ok (.aload_n 0, 1) := by decide +kernel
theorem dX11_orders_1 : decode cX11_orders 1 = .ok (.iconst 0, 1) := by decide +kernel
theorem dX11_orders_2 : decode cX11_orders 2 = .ok (.putfield 188, 3) := by decide +kernel
theorem dX11_orders_5 : decode cX11_orders 5 = .ok (.iconst 0, 1) := by decide +kernel
theorem dX11_orders_6 : decode cX11_orders 6 = .ok (.istore_n 1, 1) := by decide +kernel
theorem dX11_orders_7 : decode cX11_orders 7 = .ok (.iload_n 1, 1) := by decide +kernel
theorem dX11_orders_8 : decode cX11_orders 8 = .ok (.aload_n 0, 1) := by decide +kernel
theorem dX11_orders_9 : decode cX11_orders 9 = .ok (.getfield 159, 3) := by decide +kernel
theorem dX11_orders_12 : decode cX11_orders 12 = .ok (.if_icmp .ge 89, 3) := by decide +kernel
theorem dX11_orders_15 : decode cX11_orders 15 = .ok (.aload_n 0, 1) := by decide +kernel
theorem dX11_orders_16 : decode cX11_orders 16 = .ok (.getfield 51, 3) := by decide +kernel
theorem dX11_orders_19 : decode cX11_orders 19 = .ok (.iload_n 1, 1) := by decide +kernel
theorem dX11_orders_20 : decode cX11_orders 20 = .ok (.baload, 1) := by decide +kernel
theorem dX11_orders_21 : decode cX11_orders 21 = .ok (.ifCond .eq 6, 3) := by decide +kernel
theorem dX11_orders_24 : decode cX11_orders 24 = .ok (.goto 71, 3) := by decide +kernel
theorem dX11_orders_27 : decode cX11_orders 27 = .ok (.aload_n 0, 1) := by decide +kernel
theorem dX11_orders_28 : decode cX11_orders 28 = .ok (.getfield 188, 3) := by decide +kernel
theorem dX11_orders_31 : decode cX11_orders 31 = .ok (.istore_n 2, 1) := by decide +kernel
theorem dX11_orders_32 : decode cX11_orders 32 = .ok (.iload_n 2, 1) := by decide +kernel
theorem dX11_orders_33 : decode cX11_orders 33 = .ok (.ifCond .le 45, 3) := by decide +kernel
theorem dX11_orders_36 : decode cX11_orders 36 = .ok (.aload_n 0, 1) := by decide +kernel
theorem dX11_orders_37 : decode cX11_orders 37 = .ok (.getfield 45, 3) := by decide +kernel
theorem dX11_orders_40 : decode cX11_orders 40 = .ok (.aload_n 0, 1) := by decide +kernel
theorem dX11_orders_41 : decode cX11_orders 41 = .ok (.getfield 90, 3) := by decide +kernel
theorem dX11_orders_44 : decode cX11_orders 44 = .ok (.iload_n 2, 1) := by decide +kernel
theorem dX11_orders_45 : decode cX11_orders 45 = .ok (.iconst 1, 1) := by decide +kernel
theorem dX11_orders_46 : decode cX11_orders 46 = .ok (.isub, 1) := by decide +kernel
theorem dX11_orders_47 : decode cX11_orders 47 = .ok (.iaload, 1) := by decide +kernel
theorem dX11_orders_48 : decode cX11_orders 48 = .ok (.iaload, 1) := by decide +kernel
theorem dX11_orders_49 : decode cX11_orders 49 = .ok (.aload_n 0, 1) := by decide +kernel
theorem dX11_orders_50 : decode cX11_orders 50 = .ok (.getfield 45, 3) := by decide +kernel
theorem dX11_orders_53 : decode cX11_orders 53 = .ok (.iload_n 1, 1) := by decide +kernel
theorem dX11_orders_54 : decode cX11_orders 54 = .ok (.iaload, 1) := by decide +kernel
theorem dX11_orders_55 : decode cX11_orders 55 = .ok (.if_icmp .le 23, 3) := by decide +kernel
theorem dX11_orders_58 : decode cX11_orders 58 = .ok (.aload_n 0, 1) := by decide +kernel
theorem dX11_orders_59 : decode cX11_orders 59 = .ok (.getfield 90, 3) := by decide +kernel
theorem dX11_orders_62 : decode cX11_orders 62 = .ok (.iload_n 2, 1) := by decide +kernel
theorem dX11_orders_63 : decode cX11_orders 63 = .ok (.aload_n 0, 1) := by decide +kernel
theorem dX11_orders_64 : decode cX11_orders 64 = .ok (.getfield 90, 3) := by decide +kernel
theorem dX11_orders_67 : decode cX11_orders 67 = .ok (.iload_n 2, 1) := by decide +kernel
theorem dX11_orders_68 : decode cX11_orders 68 = .ok (.iconst 1, 1) := by decide +kernel
theorem dX11_orders_69 : decode cX11_orders 69 = .ok (.isub, 1) := by decide +kernel
theorem dX11_orders_70 : decode cX11_orders 70 = .ok (.iaload, 1) := by decide +kernel
theorem dX11_orders_71 : decode cX11_orders 71 = .ok (.iastore, 1) := by decide +kernel
theorem dX11_orders_72 : decode cX11_orders 72 = .ok (.iinc 2 (-1), 3) := by decide +kernel
theorem dX11_orders_75 : decode cX11_orders 75 = .ok (.goto (-43), 3) := by decide +kernel
theorem dX11_orders_78 : decode cX11_orders 78 = .ok (.aload_n 0, 1) := by decide +kernel
theorem dX11_orders_79 : decode cX11_orders 79 = .ok (.getfield 90, 3) := by decide +kernel
theorem dX11_orders_82 : decode cX11_orders 82 = .ok (.iload_n 2, 1) := by decide +kernel
theorem dX11_orders_83 : decode cX11_orders 83 = .ok (.iload_n 1, 1) := by decide +kernel
theorem dX11_orders_84 : decode cX11_orders 84 = .ok (.iastore, 1) := by decide +kernel
theorem dX11_orders_85 : decode cX11_orders 85 = .ok (.aload_n 0, 1) := by decide +kernel
theorem dX11_orders_86 : decode cX11_orders 86 = .ok (.dup, 1) := by decide +kernel
theorem dX11_orders_87 : decode cX11_orders 87 = .ok (.getfield 188, 3) := by decide +kernel
theorem dX11_orders_90 : decode cX11_orders 90 = .ok (.iconst 1, 1) := by decide +kernel
theorem dX11_orders_91 : decode cX11_orders 91 = .ok (.iadd, 1) := by decide +kernel
theorem dX11_orders_92 : decode cX11_orders 92 = .ok (.putfield 188, 3) := by decide +kernel
theorem dX11_orders_95 : decode cX11_orders 95 = .ok (.iinc 1 1, 3) := by decide +kernel
theorem dX11_orders_98 : decode cX11_orders 98 = .ok (.goto (-91), 3) := by decide +kernel
theorem dX11_orders_101 : decode cX11_orders 101 = .ok (.return_, 1) := by decide +kernel
theorem dX11_adds_0 : decode cX11_adds 0 = .ok (.aload_n 0, 1) := by decide +kernel
theorem dX11_adds_1 : decode cX11_adds 1 = .ok (.getfield 93, 3) := by decide +kernel
theorem dX11_adds_4 : decode cX11_adds 4 = .ok (.aload_n 0, 1) := by decide +kernel
theorem dX11_adds_5 : decode cX11_adds 5 = .ok (.getfield 191, 3) := by decide +kernel
theorem dX11_adds_8 : decode cX11_adds 8 = .ok (.iload_n 1, 1) := by decide +kernel
theorem dX11_adds_9 : decode cX11_adds 9 = .ok (.iastore, 1) := by decide +kernel
theorem dX11_adds_10 : decode cX11_adds 10 = .ok (.aload_n 0, 1) := by decide +kernel
theorem dX11_adds_11 : decode cX11_adds 11 = .ok (.getfield 96, 3) := by decide +kernel
theorem dX11_adds_14 : decode cX11_adds 14 = .ok (.aload_n 0, 1) := by decide +kernel
theorem dX11_adds_15 : decode cX11_adds 15 = .ok (.getfield 191, 3) := by decide +kernel
theorem dX11_adds_18 : decode cX11_adds 18 = .ok (.iload_n 2, 1) := by decide +kernel
theorem dX11_adds_19 : decode cX11_adds 19 = .ok (.iastore, 1) := by decide +kernel
theorem dX11_adds_20 : decode cX11_adds 20 = .ok (.aload_n 0, 1) := by decide +kernel
theorem dX11_adds_21 : decode cX11_adds 21 = .ok (.getfield 99, 3) := by decide +kernel
theorem dX11_adds_24 : decode cX11_adds 24 = .ok (.aload_n 0, 1) := by decide +kernel
theorem dX11_adds_25 : decode cX11_adds 25 = .ok (.getfield 191, 3) := by decide +kernel
theorem dX11_adds_28 : decode cX11_adds 28 = .ok (.iload_n 3, 1) := by decide +kernel
theorem dX11_adds_29 : decode cX11_adds 29 = .ok (.iastore, 1) := by decide +kernel
theorem dX11_adds_30 : decode cX11_adds 30 = .ok (.aload_n 0, 1) := by decide +kernel
theorem dX11_adds_31 : decode cX11_adds 31 = .ok (.getfield 102, 3) := by decide +kernel
theorem dX11_adds_34 : decode cX11_adds 34 = .ok (.aload_n 0, 1) := by decide +kernel
theorem dX11_adds_35 : decode cX11_adds 35 = .ok (.getfield 191, 3) := by decide +kernel
theorem dX11_adds_38 : decode cX11_adds 38 = .ok (.iload 4, 2) := by decide +kernel
theorem dX11_adds_40 : decode cX11_adds 40 = .ok (.iastore, 1) := by decide +kernel
theorem dX11_adds_41 : decode cX11_adds 41 = .ok (.aload_n 0, 1) := by decide +kernel
theorem dX11_adds_42 : decode cX11_adds 42 = .ok (.getfield 105, 3) := by decide +kernel
theorem dX11_adds_45 : decode cX11_adds 45 = .ok (.aload_n 0, 1) := by decide +kernel
theorem dX11_adds_46 : decode cX11_adds 46 = .ok (.getfield 191, 3) := by decide +kernel
theorem dX11_adds_49 : decode cX11_adds 49 = .ok (.iload 5, 2) := by decide +kernel
theorem dX11_adds_51 : decode cX11_adds 51 = .ok (.iastore, 1) := by decide +kernel
theorem dX11_adds_52 : decode cX11_adds 52 = .ok (.aload_n 0, 1) := by decide +kernel
theorem dX11_adds_53 : decode cX11_adds 53 = .ok (.getfield 108, 3) := by decide +kernel
theorem dX11_adds_56 : decode cX11_adds 56 = .ok (.aload_n 0, 1) := by decide +kernel
theorem dX11_adds_57 : decode cX11_adds 57 = .ok (.getfield 191, 3) := by decide +kernel
theorem dX11_adds_60 : decode cX11_adds 60 = .ok (.iload 6, 2) := by decide +kernel
theorem dX11_adds_62 : decode cX11_adds 62 = .ok (.iastore, 1) := by decide +kernel
theorem dX11_adds_63 : decode cX11_adds 63 = .ok (.aload_n 0, 1) := by decide +kernel
theorem dX11_adds_64 : decode cX11_adds 64 = .ok (.dup, 1) := by decide +kernel
theorem dX11_adds_65 : decode cX11_adds 65 = .ok (.getfield 191, 3) := by decide +kernel
theorem dX11_adds_68 : decode cX11_adds 68 = .ok (.iconst 1, 1) := by decide +kernel
theorem dX11_adds_69 : decode cX11_adds 69 = .ok (.iadd, 1) := by decide +kernel
theorem dX11_adds_70 : decode cX11_adds 70 = .ok (.putfield 191, 3) := by decide +kernel
theorem dX11_adds_73 : decode cX11_adds 73 = .ok (.return_, 1) := by decide +kernel
theorem dX11_chains_0 : decode cX11_chains 0 = .ok (.aload_n 0, 1) := by decide +kernel
theorem dX11_chains_1 : decode cX11_chains 1 = .ok (.iconst 0, 1) := by decide +kernel
theorem dX11_chains_2 : decode cX11_chains 2 = .ok (.putfield 191, 3) := by decide +kernel
theorem dX11_chains_5 : decode cX11_chains 5 = .ok (.aload_n 0, 1) := by decide +kernel
theorem dX11_chains_6 : decode cX11_chains 6 = .ok (.getfield 27, 3) := by decide +kernel
theorem dX11_chains_9 : decode cX11_chains 9 = .ok (.iload_n 1, 1) := by decide +kernel
theorem dX11_chains_10 : decode cX11_chains 10 = .ok (.iaload, 1) := by decide +kernel
theorem dX11_chains_11 : decode cX11_chains 11 = .ok (.istore_n 3, 1) := by decide +kernel
theorem dX11_chains_12 : decode cX11_chains 12 = .ok (.iconst 0, 1) := by decide +kernel
theorem dX11_chains_13 : decode cX11_chains 13 = .ok (.istore 4, 2) := by decide +kernel
theorem dX11_chains_15 : decode cX11_chains 15 = .ok (.iload 4, 2) := by decide +kernel
theorem dX11_chains_17 : decode cX11_chains 17 = .ok (.aload_n 0, 1) := by decide +kernel
theorem dX11_chains_18 : decode cX11_chains 18 = .ok (.getfield 188, 3) := by decide +kernel
theorem dX11_chains_21 : decode cX11_chains 21 = .ok (.if_icmp .ge 152, 3) := by decide +kernel
theorem dX11_chains_24 : decode cX11_chains 24 = .ok (.iload_n 2, 1) := by decide +kernel
theorem dX11_chains_25 : decode cX11_chains 25 = .ok (.iload 4, 2) := by decide +kernel
theorem dX11_chains_27 : decode cX11_chains 27 = .ok (.ishr, 1) := by decide +kernel
theorem dX11_chains_28 : decode cX11_chains 28 = .ok (.iconst 1, 1) := by decide +kernel
theorem dX11_chains_29 : decode cX11_chains 29 = .ok (.iand, 1) := by decide +kernel
theorem dX11_chains_30 : decode cX11_chains 30 = .ok (.ifCond .ne 6, 3) := by decide +kernel
theorem dX11_chains_33 : decode cX11_chains 33 = .ok (.goto 134, 3) := by decide +kernel
theorem dX11_chains_36 : decode cX11_chains 36 = .ok (.aload_n 0, 1) := by decide +kernel
theorem dX11_chains_37 : decode cX11_chains 37 = .ok (.getfield 90, 3) := by decide +kernel
theorem dX11_chains_40 : decode cX11_chains 40 = .ok (.iload 4, 2) := by decide +kernel
theorem dX11_chains_42 : decode cX11_chains 42 = .ok (.iaload, 1) := by decide +kernel
theorem dX11_chains_43 : decode cX11_chains 43 = .ok (.istore 5, 2) := by decide +kernel
theorem dX11_chains_45 : decode cX11_chains 45 = .ok (.aload_n 0, 1) := by decide +kernel
theorem dX11_chains_46 : decode cX11_chains 46 = .ok (.getfield 45, 3) := by decide +kernel
theorem dX11_chains_49 : decode cX11_chains 49 = .ok (.iload 5, 2) := by decide +kernel
theorem dX11_chains_51 : decode cX11_chains 51 = .ok (.iaload, 1) := by decide +kernel
theorem dX11_chains_52 : decode cX11_chains 52 = .ok (.aload_n 0, 1) := by decide +kernel
theorem dX11_chains_53 : decode cX11_chains 53 = .ok (.getfield 33, 3) := by decide +kernel
theorem dX11_chains_56 : decode cX11_chains 56 = .ok (.iload_n 1, 1) := by decide +kernel
theorem dX11_chains_57 : decode cX11_chains 57 = .ok (.iaload, 1) := by decide +kernel
theorem dX11_chains_58 : decode cX11_chains 58 = .ok (.isub, 1) := by decide +kernel
theorem dX11_chains_59 : decode cX11_chains 59 = .ok (.istore 6, 2) := by decide +kernel
theorem dX11_chains_61 : decode cX11_chains 61 = .ok (.iload_n 3, 1) := by decide +kernel
theorem dX11_chains_62 : decode cX11_chains 62 = .ok (.aload_n 0, 1) := by decide +kernel
theorem dX11_chains_63 : decode cX11_chains 63 = .ok (.getfield 39, 3) := by decide +kernel
theorem dX11_chains_66 : decode cX11_chains 66 = .ok (.iload 5, 2) := by decide +kernel
theorem dX11_chains_68 : decode cX11_chains 68 = .ok (.iaload, 1) := by decide +kernel
theorem dX11_chains_69 : decode cX11_chains 69 = .ok (.if_icmp .eq 35, 3) := by decide +kernel
theorem dX11_chains_72 : decode cX11_chains 72 = .ok (.aload_n 0, 1) := by decide +kernel
theorem dX11_chains_73 : decode cX11_chains 73 = .ok (.iconst (-1), 1) := by decide +kernel
theorem dX11_chains_74 : decode cX11_chains 74 = .ok (.iload_n 3, 1) := by decide +kernel
theorem dX11_chains_75 : decode cX11_chains 75 = .ok (.aload_n 0, 1) := by decide +kernel
theorem dX11_chains_76 : decode cX11_chains 76 = .ok (.getfield 39, 3) := by decide +kernel
theorem dX11_chains_79 : decode cX11_chains 79 = .ok (.iload 5, 2) := by decide +kernel
theorem dX11_chains_81 : decode cX11_chains 81 = .ok (.iaload, 1) := by decide +kernel
theorem dX11_chains_82 : decode cX11_chains 82 = .ok (.iload 6, 2) := by decide +kernel
theorem dX11_chains_84 : decode cX11_chains 84 = .ok (.aload_n 0, 1) := by decide +kernel
theorem dX11_chains_85 : decode cX11_chains 85 = .ok (.iload_n 3, 1) := by decide +kernel
theorem dX11_chains_86 : decode cX11_chains 86 = .ok (.aload_n 0, 1) := by decide +kernel
theorem dX11_chains_87 : decode cX11_chains 87 = .ok (.getfield 39, 3) := by decide +kernel
theorem dX11_chains_90 : decode cX11_chains 90 = .ok (.iload 5, 2) := by decide +kernel
theorem dX11_chains_92 : decode cX11_chains 92 = .ok (.iaload, 1) := by decide +kernel
theorem dX11_chains_93 : decode cX11_chains 93 = .ok (.invokevirtual 165, 3) := by decide +kernel
theorem dX11_chains_96 : decode cX11_chains 96 = .ok (.isub, 1) := by decide +kernel
theorem dX11_chains_97 : decode cX11_chains 97 = .ok (.iload 6, 2) := by decide +kernel
theorem dX11_chains_99 : decode cX11_chains 99 = .ok (.iload 5, 2) := by decide +kernel
theorem dX11_chains_101 : decode cX11_chains 101 = .ok (.invokevirtual 194, 3) := by decide +kernel
theorem dX11_chains_104 : decode cX11_chains 104 = .ok (.aload_n 0, 1) := by decide +kernel
theorem dX11_chains_105 : decode cX11_chains 105 = .ok (.iload 5, 2) := by decide +kernel
theorem dX11_chains_107 : decode cX11_chains 107 = .ok (.aload_n 0, 1) := by decide +kernel
theorem dX11_chains_108 : decode cX11_chains 108 = .ok (.getfield 39, 3) := by decide +kernel
theorem dX11_chains_111 : decode cX11_chains 111 = .ok (.iload 5, 2) := by decide +kernel
theorem dX11_chains_113 : decode cX11_chains 113 = .ok (.iaload, 1) := by decide +kernel
theorem dX11_chains_114 : decode cX11_chains 114 = .ok (.aload_n 0, 1) := by decide +kernel
theorem dX11_chains_115 : decode cX11_chains 115 = .ok (.getfield 42, 3) := by decide +kernel
theorem dX11_chains_118 : decode cX11_chains 118 = .ok (.iload 5, 2) := by decide +kernel
theorem dX11_chains_120 : decode cX11_chains 120 = .ok (.iaload, 1) := by decide +kernel
theorem dX11_chains_121 : decode cX11_chains 121 = .ok (.aload_n 0, 1) := by decide +kernel
theorem dX11_chains_122 : decode cX11_chains 122 = .ok (.getfield 45, 3) := by decide +kernel
theorem dX11_chains_125 : decode cX11_chains 125 = .ok (.iload 5, 2) := by decide +kernel
theorem dX11_chains_127 : decode cX11_chains 127 = .ok (.iaload, 1) := by decide +kernel
theorem dX11_chains_128 : decode cX11_chains 128 = .ok (.aload_n 0, 1) := by decide +kernel
theorem dX11_chains_129 : decode cX11_chains 129 = .ok (.getfield 45, 3) := by decide +kernel
theorem dX11_chains_132 : decode cX11_chains 132 = .ok (.iload 5, 2) := by decide +kernel
theorem dX11_chains_134 : decode cX11_chains 134 = .ok (.iaload, 1) := by decide +kernel
theorem dX11_chains_135 : decode cX11_chains 135 = .ok (.aload_n 0, 1) := by decide +kernel
theorem dX11_chains_136 : decode cX11_chains 136 = .ok (.aload_n 0, 1) := by decide +kernel
theorem dX11_chains_137 : decode cX11_chains 137 = .ok (.getfield 39, 3) := by decide +kernel
theorem dX11_chains_140 : decode cX11_chains 140 = .ok (.iload 5, 2) := by decide +kernel
theorem dX11_chains_142 : decode cX11_chains 142 = .ok (.iaload, 1) := by decide +kernel
theorem dX11_chains_143 : decode cX11_chains 143 = .ok (.aload_n 0, 1) := by decide +kernel
theorem dX11_chains_144 : decode cX11_chains 144 = .ok (.getfield 42, 3) := by decide +kernel
theorem dX11_chains_147 : decode cX11_chains 147 = .ok (.iload 5, 2) := by decide +kernel
theorem dX11_chains_149 : decode cX11_chains 149 = .ok (.iaload, 1) := by decide +kernel
theorem dX11_chains_150 : decode cX11_chains 150 = .ok (.invokevirtual 165, 3) := by decide +kernel
theorem dX11_chains_153 : decode cX11_chains 153 = .ok (.iadd, 1) := by decide +kernel
theorem dX11_chains_154 : decode cX11_chains 154 = .ok (.iload 5, 2) := by decide +kernel
theorem dX11_chains_156 : decode cX11_chains 156 = .ok (.invokevirtual 194, 3) := by decide +kernel
theorem dX11_chains_159 : decode cX11_chains 159 = .ok (.aload_n 0, 1) := by decide +kernel
theorem dX11_chains_160 : decode cX11_chains 160 = .ok (.getfield 42, 3) := by decide +kernel
theorem dX11_chains_163 : decode cX11_chains 163 = .ok (.iload 5, 2) := by decide +kernel
theorem dX11_chains_165 : decode cX11_chains 165 = .ok (.iaload, 1) := by decide +kernel
theorem dX11_chains_166 : decode cX11_chains 166 = .ok (.istore_n 3, 1) := by decide +kernel
theorem dX11_chains_167 : decode cX11_chains 167 = .ok (.iinc 4 1, 3) := by decide +kernel
theorem dX11_chains_170 : decode cX11_chains 170 = .ok (.goto (-155), 3) := by decide +kernel
theorem dX11_chains_173 : decode cX11_chains 173 = .ok (.return_, 1) := by decide +kernel
theorem dX11_isStorm_0 : decode cX11_isStorm 0 = .ok (.iconst 0, 1) := by decide +kernel
theorem dX11_isStorm_1 : decode cX11_isStorm 1 = .ok (.istore_n 3, 1) := by decide +kernel
theorem dX11_isStorm_2 : decode cX11_isStorm 2 = .ok (.iload_n 3, 1) := by decide +kernel
theorem dX11_isStorm_3 : decode cX11_isStorm 3 = .ok (.aload_n 0, 1) := by decide +kernel
theorem dX11_isStorm_4 : decode cX11_isStorm 4 = .ok (.getfield 179, 3) := by decide +kernel
theorem dX11_isStorm_7 : decode cX11_isStorm 7 = .ok (.if_icmp .ge 42, 3) := by decide +kernel
theorem dX11_isStorm_10 : decode cX11_isStorm 10 = .ok (.aload_n 0, 1) := by decide +kernel
theorem dX11_isStorm_11 : decode cX11_isStorm 11 = .ok (.getfield 57, 3) := by decide +kernel
theorem dX11_isStorm_14 : decode cX11_isStorm 14 = .ok (.iload_n 3, 1) := by decide +kernel
theorem dX11_isStorm_15 : decode cX11_isStorm 15 = .ok (.iaload, 1) := by decide +kernel
theorem dX11_isStorm_16 : decode cX11_isStorm 16 = .ok (.iload_n 1, 1) := by decide +kernel
theorem dX11_isStorm_17 : decode cX11_isStorm 17 = .ok (.if_icmp .ne 26, 3) := by decide +kernel
theorem dX11_isStorm_20 : decode cX11_isStorm 20 = .ok (.iload_n 2, 1) := by decide +kernel
theorem dX11_isStorm_21 : decode cX11_isStorm 21 = .ok (.aload_n 0, 1) := by decide +kernel
theorem dX11_isStorm_22 : decode cX11_isStorm 22 = .ok (.getfield 60, 3) := by decide +kernel
theorem dX11_isStorm_25 : decode cX11_isStorm 25 = .ok (.iload_n 3, 1) := by decide +kernel
theorem dX11_isStorm_26 : decode cX11_isStorm 26 = .ok (.iaload, 1) := by decide +kernel
theorem dX11_isStorm_27 : decode cX11_isStorm 27 = .ok (.aload_n 0, 1) := by decide +kernel
theorem dX11_isStorm_28 : decode cX11_isStorm 28 = .ok (.getfield 63, 3) := by decide +kernel
theorem dX11_isStorm_31 : decode cX11_isStorm 31 = .ok (.iload_n 3, 1) := by decide +kernel
theorem dX11_isStorm_32 : decode cX11_isStorm 32 = .ok (.iaload, 1) := by decide +kernel
theorem dX11_isStorm_33 : decode cX11_isStorm 33 = .ok (.iconst 1, 1) := by decide +kernel
theorem dX11_isStorm_34 : decode cX11_isStorm 34 = .ok (.isub, 1) := by decide +kernel
theorem dX11_isStorm_35 : decode cX11_isStorm 35 = .ok (.invokestatic 141, 3) := by decide +kernel
theorem dX11_isStorm_38 : decode cX11_isStorm 38 = .ok (.ifCond .eq 5, 3) := by decide +kernel
theorem dX11_isStorm_41 : decode cX11_isStorm 41 = .ok (.iconst 1, 1) := by decide +kernel
theorem dX11_isStorm_42 : decode cX11_isStorm 42 = .ok (.ireturn, 1) := by decide +kernel
theorem dX11_isStorm_43 : decode cX11_isStorm 43 = .ok (.iinc 3 1, 3) := by decide +kernel
theorem dX11_isStorm_46 : decode cX11_isStorm 46 = .ok (.goto (-44), 3) := by decide +kernel
theorem dX11_isStorm_49 : decode cX11_isStorm 49 = .ok (.iconst 0, 1) := by decide +kernel
theorem dX11_isStorm_50 : decode cX11_isStorm 50 = .ok (.ireturn, 1) := by decide +kernel
theorem dX11_holds_0 : decode cX11_holds 0 = .ok (.iconst 0, 1) := by decide +kernel
theorem dX11_holds_1 : decode cX11_holds 1 = .ok (.istore_n 2, 1) := by decide +kernel
theorem dX11_holds_2 : decode cX11_holds 2 = .ok (.iconst 0, 1) := by decide +kernel
theorem dX11_holds_3 : decode cX11_holds 3 = .ok (.istore_n 3, 1) := by decide +kernel
theorem dX11_holds_4 : decode cX11_holds 4 = .ok (.iload_n 3, 1) := by decide +kernel
theorem dX11_holds_5 : decode cX11_holds 5 = .ok (.aload_n 0, 1) := by decide +kernel
theorem dX11_holds_6 : decode cX11_holds 6 = .ok (.getfield 191, 3) := by decide +kernel
theorem dX11_holds_9 : decode cX11_holds 9 = .ok (.if_icmp .ge 223, 3) := by decide +kernel
theorem dX11_holds_12 : decode cX11_holds 12 = .ok (.aload_n 0, 1) := by decide +kernel
theorem dX11_holds_13 : decode cX11_holds 13 = .ok (.aload_n 0, 1) := by decide +kernel
theorem dX11_holds_14 : decode cX11_holds 14 = .ok (.getfield 96, 3) := by decide +kernel
theorem dX11_holds_17 : decode cX11_holds 17 = .ok (.iload_n 3, 1) := by decide +kernel
theorem dX11_holds_18 : decode cX11_holds 18 = .ok (.iaload, 1) := by decide +kernel
theorem dX11_holds_19 : decode cX11_holds 19 = .ok (.aload_n 0, 1) := by decide +kernel
theorem dX11_holds_20 : decode cX11_holds 20 = .ok (.getfield 99, 3) := by decide +kernel
theorem dX11_holds_23 : decode cX11_holds 23 = .ok (.iload_n 3, 1) := by decide +kernel
theorem dX11_holds_24 : decode cX11_holds 24 = .ok (.iaload, 1) := by decide +kernel
theorem dX11_holds_25 : decode cX11_holds 25 = .ok (.invokevirtual 165, 3) := by decide +kernel
theorem dX11_holds_28 : decode cX11_holds 28 = .ok (.ifCond .eq 24, 3) := by decide +kernel
theorem dX11_holds_31 : decode cX11_holds 31 = .ok (.aload_n 0, 1) := by decide +kernel
theorem dX11_holds_32 : decode cX11_holds 32 = .ok (.getfield 102, 3) := by decide +kernel
theorem dX11_holds_35 : decode cX11_holds 35 = .ok (.iload_n 3, 1) := by decide +kernel
theorem dX11_holds_36 : decode cX11_holds 36 = .ok (.iaload, 1) := by decide +kernel
theorem dX11_holds_37 : decode cX11_holds 37 = .ok (.ifCond .lt 15, 3) := by decide +kernel
theorem dX11_holds_40 : decode cX11_holds 40 = .ok (.aload_n 0, 1) := by decide +kernel
theorem dX11_holds_41 : decode cX11_holds 41 = .ok (.getfield 105, 3) := by decide +kernel
theorem dX11_holds_44 : decode cX11_holds 44 = .ok (.iload_n 3, 1) := by decide +kernel
theorem dX11_holds_45 : decode cX11_holds 45 = .ok (.iaload, 1) := by decide +kernel
theorem dX11_holds_46 : decode cX11_holds 46 = .ok (.sipush 10080, 3) := by decide +kernel
theorem dX11_holds_49 : decode cX11_holds 49 = .ok (.if_icmp .lt 5, 3) := by decide +kernel
theorem dX11_holds_52 : decode cX11_holds 52 = .ok (.iconst 0, 1) := by decide +kernel
theorem dX11_holds_53 : decode cX11_holds 53 = .ok (.ireturn, 1) := by decide +kernel
theorem dX11_holds_54 : decode cX11_holds 54 = .ok (.aload_n 0, 1) := by decide +kernel
theorem dX11_holds_55 : decode cX11_holds 55 = .ok (.getfield 93, 3) := by decide +kernel
theorem dX11_holds_58 : decode cX11_holds 58 = .ok (.iload_n 3, 1) := by decide +kernel
theorem dX11_holds_59 : decode cX11_holds 59 = .ok (.iaload, 1) := by decide +kernel
theorem dX11_holds_60 : decode cX11_holds 60 = .ok (.iconst (-1), 1) := by decide +kernel
theorem dX11_holds_61 : decode cX11_holds 61 = .ok (.if_icmp .eq 25, 3) := by decide +kernel
theorem dX11_holds_64 : decode cX11_holds 64 = .ok (.aload_n 0, 1) := by decide +kernel
theorem dX11_holds_65 : decode cX11_holds 65 = .ok (.getfield 48, 3) := by decide +kernel
theorem dX11_holds_68 : decode cX11_holds 68 = .ok (.aload_n 0, 1) := by decide +kernel
theorem dX11_holds_69 : decode cX11_holds 69 = .ok (.getfield 93, 3) := by decide +kernel
theorem dX11_holds_72 : decode cX11_holds 72 = .ok (.iload_n 3, 1) := by decide +kernel
theorem dX11_holds_73 : decode cX11_holds 73 = .ok (.iaload, 1) := by decide +kernel
theorem dX11_holds_74 : decode cX11_holds 74 = .ok (.iaload, 1) := by decide +kernel
theorem dX11_holds_75 : decode cX11_holds 75 = .ok (.aload_n 0, 1) := by decide +kernel
theorem dX11_holds_76 : decode cX11_holds 76 = .ok (.getfield 30, 3) := by decide +kernel
theorem dX11_holds_79 : decode cX11_holds 79 = .ok (.iload_n 1, 1) := by decide +kernel
theorem dX11_holds_80 : decode cX11_holds 80 = .ok (.iaload, 1) := by decide +kernel
theorem dX11_holds_81 : decode cX11_holds 81 = .ok (.if_icmp .le 5, 3) := by decide +kernel
theorem dX11_holds_84 : decode cX11_holds 84 = .ok (.iconst 0, 1) := by decide +kernel
theorem dX11_holds_85 : decode cX11_holds 85 = .ok (.ireturn, 1) := by decide +kernel
theorem dX11_holds_86 : decode cX11_holds 86 = .ok (.iload_n 3, 1) := by decide +kernel
theorem dX11_holds_87 : decode cX11_holds 87 = .ok (.ifCond .le 29, 3) := by decide +kernel
theorem dX11_holds_90 : decode cX11_holds 90 = .ok (.aload_n 0, 1) := by decide +kernel
theorem dX11_holds_91 : decode cX11_holds 91 = .ok (.getfield 102, 3) := by decide +kernel
theorem dX11_holds_94 : decode cX11_holds 94 = .ok (.iload_n 3, 1) := by decide +kernel
theorem dX11_holds_95 : decode cX11_holds 95 = .ok (.iaload, 1) := by decide +kernel
theorem dX11_holds_96 : decode cX11_holds 96 = .ok (.aload_n 0, 1) := by decide +kernel
theorem dX11_holds_97 : decode cX11_holds 97 = .ok (.getfield 105, 3) := by decide +kernel
theorem dX11_holds_100 : decode cX11_holds 100 = .ok (.iload_n 3, 1) := by decide +kernel
theorem dX11_holds_101 : decode cX11_holds 101 = .ok (.iconst 1, 1) := by decide +kernel
theorem dX11_holds_102 : decode cX11_holds 102 = .ok (.isub, 1) := by decide +kernel
theorem dX11_holds_103 : decode cX11_holds 103 = .ok (.iaload, 1) := by decide +kernel
theorem dX11_holds_104 : decode cX11_holds 104 = .ok (.aload_n 0, 1) := by decide +kernel
theorem dX11_holds_105 : decode cX11_holds 105 = .ok (.getfield 33, 3) := by decide +kernel
theorem dX11_holds_108 : decode cX11_holds 108 = .ok (.iload_n 1, 1) := by decide +kernel
theorem dX11_holds_109 : decode cX11_holds 109 = .ok (.iaload, 1) := by decide +kernel
theorem dX11_holds_110 : decode cX11_holds 110 = .ok (.iadd, 1) := by decide +kernel
theorem dX11_holds_111 : decode cX11_holds 111 = .ok (.if_icmp .ge 5, 3) := by decide +kernel
theorem dX11_holds_114 : decode cX11_holds 114 = .ok (.iconst 0, 1) := by decide +kernel
theorem dX11_holds_115 : decode cX11_holds 115 = .ok (.ireturn, 1) := by decide +kernel
theorem dX11_holds_116 : decode cX11_holds 116 = .ok (.aload_n 0, 1) := by decide +kernel
theorem dX11_holds_117 : decode cX11_holds 117 = .ok (.aload_n 0, 1) := by decide +kernel
theorem dX11_holds_118 : decode cX11_holds 118 = .ok (.getfield 96, 3) := by decide +kernel
theorem dX11_holds_121 : decode cX11_holds 121 = .ok (.iload_n 3, 1) := by decide +kernel
theorem dX11_holds_122 : decode cX11_holds 122 = .ok (.iaload, 1) := by decide +kernel
theorem dX11_holds_123 : decode cX11_holds 123 = .ok (.aload_n 0, 1) := by decide +kernel
theorem dX11_holds_124 : decode cX11_holds 124 = .ok (.getfield 102, 3) := by decide +kernel
theorem dX11_holds_127 : decode cX11_holds 127 = .ok (.iload_n 3, 1) := by decide +kernel
theorem dX11_holds_128 : decode cX11_holds 128 = .ok (.iaload, 1) := by decide +kernel
theorem dX11_holds_129 : decode cX11_holds 129 = .ok (.invokevirtual 198, 3) := by decide +kernel
theorem dX11_holds_132 : decode cX11_holds 132 = .ok (.ifCond .ne 22, 3) := by decide +kernel
theorem dX11_holds_135 : decode cX11_holds 135 = .ok (.aload_n 0, 1) := by decide +kernel
theorem dX11_holds_136 : decode cX11_holds 136 = .ok (.aload_n 0, 1) := by decide +kernel
theorem dX11_holds_137 : decode cX11_holds 137 = .ok (.getfield 99, 3) := by decide +kernel
theorem dX11_holds_140 : decode cX11_holds 140 = .ok (.iload_n 3, 1) := by decide +kernel
theorem dX11_holds_141 : decode cX11_holds 141 = .ok (.iaload, 1) := by decide +kernel
theorem dX11_holds_142 : decode cX11_holds 142 = .ok (.aload_n 0, 1) := by decide +kernel
theorem dX11_holds_143 : decode cX11_holds 143 = .ok (.getfield 105, 3) := by decide +kernel
theorem dX11_holds_146 : decode cX11_holds 146 = .ok (.iload_n 3, 1) := by decide +kernel
theorem dX11_holds_147 : decode cX11_holds 147 = .ok (.iaload, 1) := by decide +kernel
theorem dX11_holds_148 : decode cX11_holds 148 = .ok (.invokevirtual 198, 3) := by decide +kernel
theorem dX11_holds_151 : decode cX11_holds 151 = .ok (.ifCond .eq 5, 3) := by decide +kernel
theorem dX11_holds_154 : decode cX11_holds 154 = .ok (.iconst 0, 1) := by decide +kernel
theorem dX11_holds_155 : decode cX11_holds 155 = .ok (.ireturn, 1) := by decide +kernel
theorem dX11_holds_156 : decode cX11_holds 156 = .ok (.iload_n 3, 1) := by decide +kernel
theorem dX11_holds_157 : decode cX11_holds 157 = .ok (.ifCond .le 37, 3) := by decide +kernel
theorem dX11_holds_160 : decode cX11_holds 160 = .ok (.aload_n 0, 1) := by decide +kernel
theorem dX11_holds_161 : decode cX11_holds 161 = .ok (.getfield 102, 3) := by decide +kernel
theorem dX11_holds_164 : decode cX11_holds 164 = .ok (.iload_n 3, 1) := by decide +kernel
theorem dX11_holds_165 : decode cX11_holds 165 = .ok (.iaload, 1) := by decide +kernel
theorem dX11_holds_166 : decode cX11_holds 166 = .ok (.aload_n 0, 1) := by decide +kernel
theorem dX11_holds_167 : decode cX11_holds 167 = .ok (.getfield 105, 3) := by decide +kernel
theorem dX11_holds_170 : decode cX11_holds 170 = .ok (.iload_n 3, 1) := by decide +kernel
theorem dX11_holds_171 : decode cX11_holds 171 = .ok (.iconst 1, 1) := by decide +kernel
theorem dX11_holds_172 : decode cX11_holds 172 = .ok (.isub, 1) := by decide +kernel
theorem dX11_holds_173 : decode cX11_holds 173 = .ok (.iaload, 1) := by decide +kernel
theorem dX11_holds_174 : decode cX11_holds 174 = .ok (.isub, 1) := by decide +kernel
theorem dX11_holds_175 : decode cX11_holds 175 = .ok (.aload_n 0, 1) := by decide +kernel
theorem dX11_holds_176 : decode cX11_holds 176 = .ok (.aload_n 0, 1) := by decide +kernel
theorem dX11_holds_177 : decode cX11_holds 177 = .ok (.getfield 102, 3) := by decide +kernel
theorem dX11_holds_180 : decode cX11_holds 180 = .ok (.iload_n 2, 1) := by decide +kernel
theorem dX11_holds_181 : decode cX11_holds 181 = .ok (.iaload, 1) := by decide +kernel
theorem dX11_holds_182 : decode cX11_holds 182 = .ok (.sipush 1440, 3) := by decide +kernel
theorem dX11_holds_185 : decode cX11_holds 185 = .ok (.idiv, 1) := by decide +kernel
theorem dX11_holds_186 : decode cX11_holds 186 = .ok (.invokevirtual 152, 3) := by decide +kernel
theorem dX11_holds_189 : decode cX11_holds 189 = .ok (.if_icmp .lt 5, 3) := by decide +kernel
theorem dX11_holds_192 : decode cX11_holds 192 = .ok (.iload_n 3, 1) := by decide +kernel
theorem dX11_holds_193 : decode cX11_holds 193 = .ok (.istore_n 2, 1) := by decide +kernel
theorem dX11_holds_194 : decode cX11_holds 194 = .ok (.aload_n 0, 1) := by decide +kernel
theorem dX11_holds_195 : decode cX11_holds 195 = .ok (.getfield 105, 3) := by decide +kernel
theorem dX11_holds_198 : decode cX11_holds 198 = .ok (.iload_n 3, 1) := by decide +kernel
theorem dX11_holds_199 : decode cX11_holds 199 = .ok (.iaload, 1) := by decide +kernel
theorem dX11_holds_200 : decode cX11_holds 200 = .ok (.aload_n 0, 1) := by decide +kernel
theorem dX11_holds_201 : decode cX11_holds 201 = .ok (.getfield 102, 3) := by decide +kernel
theorem dX11_holds_204 : decode cX11_holds 204 = .ok (.iload_n 2, 1) := by decide +kernel
theorem dX11_holds_205 : decode cX11_holds 205 = .ok (.iaload, 1) := by decide +kernel
theorem dX11_holds_206 : decode cX11_holds 206 = .ok (.isub, 1) := by decide +kernel
theorem dX11_holds_207 : decode cX11_holds 207 = .ok (.aload_n 0, 1) := by decide +kernel
theorem dX11_holds_208 : decode cX11_holds 208 = .ok (.aload_n 0, 1) := by decide +kernel
theorem dX11_holds_209 : decode cX11_holds 209 = .ok (.getfield 102, 3) := by decide +kernel
theorem dX11_holds_212 : decode cX11_holds 212 = .ok (.iload_n 2, 1) := by decide +kernel
theorem dX11_holds_213 : decode cX11_holds 213 = .ok (.iaload, 1) := by decide +kernel
theorem dX11_holds_214 : decode cX11_holds 214 = .ok (.sipush 1440, 3) := by decide +kernel
theorem dX11_holds_217 : decode cX11_holds 217 = .ok (.idiv, 1) := by decide +kernel
theorem dX11_holds_218 : decode cX11_holds 218 = .ok (.invokevirtual 149, 3) := by decide +kernel
theorem dX11_holds_221 : decode cX11_holds 221 = .ok (.if_icmp .le 5, 3) := by decide +kernel
theorem dX11_holds_224 : decode cX11_holds 224 = .ok (.iconst 0, 1) := by decide +kernel
theorem dX11_holds_225 : decode cX11_holds 225 = .ok (.ireturn, 1) := by decide +kernel
theorem dX11_holds_226 : decode cX11_holds 226 = .ok (.iinc 3 1, 3) := by decide +kernel
theorem dX11_holds_229 : decode cX11_holds 229 = .ok (.goto (-225), 3) := by decide +kernel
theorem dX11_holds_232 : decode cX11_holds 232 = .ok (.iconst 1, 1) := by decide +kernel
theorem dX11_holds_233 : decode cX11_holds 233 = .ok (.ireturn, 1) := by decide +kernel
theorem dX11_emptyMinutes_0 : decode cX11_emptyMinutes 0 = .ok (.iconst 0, 1) := by decide +kernel
theorem dX11_emptyMinutes_1 : decode cX11_emptyMinutes 1 = .ok (.istore_n 1, 1) := by decide +kernel
theorem dX11_emptyMinutes_2 : decode cX11_emptyMinutes 2 = .ok (.iconst 0, 1) := by decide +kernel
theorem dX11_emptyMinutes_3 : decode cX11_emptyMinutes 3 = .ok (.istore_n 2, 1) := by decide +kernel
theorem dX11_emptyMinutes_4 : decode cX11_emptyMinutes 4 = .ok (.iload_n 2, 1) := by decide +kernel
theorem dX11_emptyMinutes_5 : decode cX11_emptyMinutes 5 = .ok (.aload_n 0, 1) := by decide +kernel
theorem dX11_emptyMinutes_6 : decode cX11_emptyMinutes 6 = .ok (.getfield 191, 3) := by decide +kernel
theorem dX11_emptyMinutes_9 : decode cX11_emptyMinutes 9 = .ok (.if_icmp .ge 42, 3) := by decide +kernel
theorem dX11_emptyMinutes_12 : decode cX11_emptyMinutes 12 = .ok (.iload_n 1, 1) := by decide +kernel
theorem dX11_emptyMinutes_13 : decode cX11_emptyMinutes 13 = .ok (.aload_n 0, 1) := by decide +kernel
theorem dX11_emptyMinutes_14 : decode cX11_emptyMinutes 14 = .ok (.getfield 93, 3) := by decide +kernel
theorem dX11_emptyMinutes_17 : decode cX11_emptyMinutes 17 = .ok (.iload_n 2, 1) := by decide +kernel
theorem dX11_emptyMinutes_18 : decode cX11_emptyMinutes 18 = .ok (.iaload, 1) := by decide +kernel
theorem dX11_emptyMinutes_19 : decode cX11_emptyMinutes 19 = .ok (.iconst (-1), 1) := by decide +kernel
theorem dX11_emptyMinutes_20 : decode cX11_emptyMinutes 20 = .ok (.if_icmp .ne 22, 3) := by decide +kernel
theorem dX11_emptyMinutes_23 : decode cX11_emptyMinutes 23 = .ok (.aload_n 0, 1) := by decide +kernel
theorem dX11_emptyMinutes_24 : decode cX11_emptyMinutes 24 = .ok (.aload_n 0, 1) := by decide +kernel
theorem dX11_emptyMinutes_25 : decode cX11_emptyMinutes 25 = .ok (.getfield 96, 3) := by decide +kernel
theorem dX11_emptyMinutes_28 : decode cX11_emptyMinutes 28 = .ok (.iload_n 2, 1) := by decide +kernel
theorem dX11_emptyMinutes_29 : decode cX11_emptyMinutes 29 = .ok (.iaload, 1) := by decide +kernel
theorem dX11_emptyMinutes_30 : decode cX11_emptyMinutes 30 = .ok (.aload_n 0, 1) := by decide +kernel
theorem dX11_emptyMinutes_31 : decode cX11_emptyMinutes 31 = .ok (.getfield 99, 3) := by decide +kernel
theorem dX11_emptyMinutes_34 : decode cX11_emptyMinutes 34 = .ok (.iload_n 2, 1) := by decide +kernel
theorem dX11_emptyMinutes_35 : decode cX11_emptyMinutes 35 = .ok (.iaload, 1) := by decide +kernel
theorem dX11_emptyMinutes_36 : decode cX11_emptyMinutes 36 = .ok (.invokevirtual 165, 3) := by decide +kernel
theorem dX11_emptyMinutes_39 : decode cX11_emptyMinutes 39 = .ok (.goto 4, 3) := by decide +kernel
theorem dX11_emptyMinutes_42 : decode cX11_emptyMinutes 42 = .ok (.iconst 0, 1) := by decide +kernel
theorem dX11_emptyMinutes_43 : decode cX11_emptyMinutes 43 = .ok (.iadd, 1) := by decide +kernel
theorem dX11_emptyMinutes_44 : decode cX11_emptyMinutes 44 = .ok (.istore_n 1, 1) := by decide +kernel
theorem dX11_emptyMinutes_45 : decode cX11_emptyMinutes 45 = .ok (.iinc 2 1, 3) := by decide +kernel
theorem dX11_emptyMinutes_48 : decode cX11_emptyMinutes 48 = .ok (.goto (-44), 3) := by decide +kernel
theorem dX11_emptyMinutes_51 : decode cX11_emptyMinutes 51 = .ok (.iload_n 1, 1) := by decide +kernel
theorem dX11_emptyMinutes_52 : decode cX11_emptyMinutes 52 = .ok (.ireturn, 1) := by decide +kernel
theorem dX11_works_0 : decode cX11_works 0 = .ok (.aload_n 0, 1) := by decide +kernel
theorem dX11_works_1 : decode cX11_works 1 = .ok (.invokevirtual 201, 3) := by decide +kernel
theorem dX11_works_4 : decode cX11_works 4 = .ok (.iconst 0, 1) := by decide +kernel
theorem dX11_works_5 : decode cX11_works 5 = .ok (.istore_n 1, 1) := by decide +kernel
theorem dX11_works_6 : decode cX11_works 6 = .ok (.iload_n 1, 1) := by decide +kernel
theorem dX11_works_7 : decode cX11_works 7 = .ok (.aload_n 0, 1) := by decide +kernel
theorem dX11_works_8 : decode cX11_works 8 = .ok (.getfield 162, 3) := by decide +kernel
theorem dX11_works_11 : decode cX11_works 11 = .ok (.if_icmp .ge 61, 3) := by decide +kernel
theorem dX11_works_14 : decode cX11_works 14 = .ok (.iconst 0, 1) := by decide +kernel
theorem dX11_works_15 : decode cX11_works 15 = .ok (.istore_n 2, 1) := by decide +kernel
theorem dX11_works_16 : decode cX11_works 16 = .ok (.iload_n 2, 1) := by decide +kernel
theorem dX11_works_17 : decode cX11_works 17 = .ok (.iconst 1, 1) := by decide +kernel
theorem dX11_works_18 : decode cX11_works 18 = .ok (.aload_n 0, 1) := by decide +kernel
theorem dX11_works_19 : decode cX11_works 19 = .ok (.getfield 188, 3) := by decide +kernel
theorem dX11_works_22 : decode cX11_works 22 = .ok (.ishl, 1) := by decide +kernel
theorem dX11_works_23 : decode cX11_works 23 = .ok (.if_icmp .ge 43, 3) := by decide +kernel
theorem dX11_works_26 : decode cX11_works 26 = .ok (.aload_n 0, 1) := by decide +kernel
theorem dX11_works_27 : decode cX11_works 27 = .ok (.iload_n 1, 1) := by decide +kernel
theorem dX11_works_28 : decode cX11_works 28 = .ok (.iload_n 2, 1) := by decide +kernel
theorem dX11_works_29 : decode cX11_works 29 = .ok (.invokevirtual 204, 3) := by decide +kernel
theorem dX11_works_32 : decode cX11_works 32 = .ok (.aload_n 0, 1) := by decide +kernel
theorem dX11_works_33 : decode cX11_works 33 = .ok (.getfield 111, 3) := by decide +kernel
theorem dX11_works_36 : decode cX11_works 36 = .ok (.sipush 256, 3) := by decide +kernel
theorem dX11_works_39 : decode cX11_works 39 = .ok (.iload_n 1, 1) := by decide +kernel
theorem dX11_works_40 : decode cX11_works 40 = .ok (.imul, 1) := by decide +kernel
theorem dX11_works_41 : decode cX11_works 41 = .ok (.iload_n 2, 1) := by decide +kernel
theorem dX11_works_42 : decode cX11_works 42 = .ok (.iadd, 1) := by decide +kernel
theorem dX11_works_43 : decode cX11_works 43 = .ok (.aload_n 0, 1) := by decide +kernel
theorem dX11_works_44 : decode cX11_works 44 = .ok (.iload_n 1, 1) := by decide +kernel
theorem dX11_works_45 : decode cX11_works 45 = .ok (.invokevirtual 208, 3) := by decide +kernel
theorem dX11_works_48 : decode cX11_works 48 = .ok (.ifCond .eq 10, 3) := by decide +kernel
theorem dX11_works_51 : decode cX11_works 51 = .ok (.aload_n 0, 1) := by decide +kernel
theorem dX11_works_52 : decode cX11_works 52 = .ok (.invokevirtual 211, 3) := by decide +kernel
theorem dX11_works_55 : decode cX11_works 55 = .ok (.goto 4, 3) := by decide +kernel
theorem dX11_works_58 : decode cX11_works 58 = .ok (.iconst (-1), 1) := by decide +kernel
theorem dX11_works_59 : decode cX11_works 59 = .ok (.iastore, 1) := by decide +kernel
theorem dX11_works_60 : decode cX11_works 60 = .ok (.iinc 2 1, 3) := by decide +kernel
theorem dX11_works_63 : decode cX11_works 63 = .ok (.goto (-47), 3) := by decide +kernel
theorem dX11_works_66 : decode cX11_works 66 = .ok (.iinc 1 1, 3) := by decide +kernel
theorem dX11_works_69 : decode cX11_works 69 = .ok (.goto (-63), 3) := by decide +kernel
theorem dX11_works_72 : decode cX11_works 72 = .ok (.return_, 1) := by decide +kernel
theorem dX11_isMoved_0 : decode cX11_isMoved 0 = .ok (.aload_n 0, 1) := by decide +kernel
theorem dX11_isMoved_1 : decode cX11_isMoved 1 = .ok (.getfield 54, 3) := by decide +kernel
theorem dX11_isMoved_4 : decode cX11_isMoved 4 = .ok (.aload_n 0, 1) := by decide +kernel
theorem dX11_isMoved_5 : decode cX11_isMoved 5 = .ok (.getfield 90, 3) := by decide +kernel
theorem dX11_isMoved_8 : decode cX11_isMoved 8 = .ok (.iload_n 1, 1) := by decide +kernel
theorem dX11_isMoved_9 : decode cX11_isMoved 9 = .ok (.iaload, 1) := by decide +kernel
theorem dX11_isMoved_10 : decode cX11_isMoved 10 = .ok (.iaload, 1) := by decide +kernel
theorem dX11_isMoved_11 : decode cX11_isMoved 11 = .ok (.iconst (-1), 1) := by decide +kernel
theorem dX11_isMoved_12 : decode cX11_isMoved 12 = .ok (.if_icmp .eq 44, 3) := by decide +kernel
theorem dX11_isMoved_15 : decode cX11_isMoved 15 = .ok (.aload_n 0, 1) := by decide +kernel
theorem dX11_isMoved_16 : decode cX11_isMoved 16 = .ok (.getfield 54, 3) := by decide +kernel
theorem dX11_isMoved_19 : decode cX11_isMoved 19 = .ok (.aload_n 0, 1) := by decide +kernel
theorem dX11_isMoved_20 : decode cX11_isMoved 20 = .ok (.getfield 90, 3) := by decide +kernel
theorem dX11_isMoved_23 : decode cX11_isMoved 23 = .ok (.iload_n 1, 1) := by decide +kernel
theorem dX11_isMoved_24 : decode cX11_isMoved 24 = .ok (.iaload, 1) := by decide +kernel
theorem dX11_isMoved_25 : decode cX11_isMoved 25 = .ok (.iaload, 1) := by decide +kernel
theorem dX11_isMoved_26 : decode cX11_isMoved 26 = .ok (.aload_n 0, 1) := by decide +kernel
theorem dX11_isMoved_27 : decode cX11_isMoved 27 = .ok (.getfield 114, 3) := by decide +kernel
theorem dX11_isMoved_30 : decode cX11_isMoved 30 = .ok (.iload_n 1, 1) := by decide +kernel
theorem dX11_isMoved_31 : decode cX11_isMoved 31 = .ok (.iaload, 1) := by decide +kernel
theorem dX11_isMoved_32 : decode cX11_isMoved 32 = .ok (.aload_n 0, 1) := by decide +kernel
theorem dX11_isMoved_33 : decode cX11_isMoved 33 = .ok (.getfield 162, 3) := by decide +kernel
theorem dX11_isMoved_36 : decode cX11_isMoved 36 = .ok (.if_icmp .ne 7, 3) := by decide +kernel
theorem dX11_isMoved_39 : decode cX11_isMoved 39 = .ok (.iconst (-1), 1) := by decide +kernel
theorem dX11_isMoved_40 : decode cX11_isMoved 40 = .ok (.goto 9, 3) := by decide +kernel
theorem dX11_isMoved_43 : decode cX11_isMoved 43 = .ok (.aload_n 0, 1) := by decide +kernel
theorem dX11_isMoved_44 : decode cX11_isMoved 44 = .ok (.getfield 114, 3) := by decide +kernel
theorem dX11_isMoved_47 : decode cX11_isMoved 47 = .ok (.iload_n 1, 1) := by decide +kernel
theorem dX11_isMoved_48 : decode cX11_isMoved 48 = .ok (.iaload, 1) := by decide +kernel
theorem dX11_isMoved_49 : decode cX11_isMoved 49 = .ok (.if_icmp .eq 7, 3) := by decide +kernel
theorem dX11_isMoved_52 : decode cX11_isMoved 52 = .ok (.iconst 1, 1) := by decide +kernel
theorem dX11_isMoved_53 : decode cX11_isMoved 53 = .ok (.goto 4, 3) := by decide +kernel
theorem dX11_isMoved_56 : decode cX11_isMoved 56 = .ok (.iconst 0, 1) := by decide +kernel
theorem dX11_isMoved_57 : decode cX11_isMoved 57 = .ok (.ireturn, 1) := by decide +kernel
theorem dX11_finds_0 : decode cX11_finds 0 = .ok (.aload_n 0, 1) := by decide +kernel
theorem dX11_finds_1 : decode cX11_finds 1 = .ok (.invokevirtual 214, 3) := by decide +kernel
theorem dX11_finds_4 : decode cX11_finds 4 = .ok (.iconst 1, 1) := by decide +kernel
theorem dX11_finds_5 : decode cX11_finds 5 = .ok (.istore_n 2, 1) := by decide +kernel
theorem dX11_finds_6 : decode cX11_finds 6 = .ok (.iconst 0, 1) := by decide +kernel
theorem dX11_finds_7 : decode cX11_finds 7 = .ok (.istore_n 3, 1) := by decide +kernel
theorem dX11_finds_8 : decode cX11_finds 8 = .ok (.iload_n 3, 1) := by decide +kernel
theorem dX11_finds_9 : decode cX11_finds 9 = .ok (.aload_n 0, 1) := by decide +kernel
theorem dX11_finds_10 : decode cX11_finds 10 = .ok (.getfield 188, 3) := by decide +kernel
theorem dX11_finds_13 : decode cX11_finds 13 = .ok (.if_icmp .ge 18, 3) := by decide +kernel
theorem dX11_finds_16 : decode cX11_finds 16 = .ok (.iload_n 2, 1) := by decide +kernel
theorem dX11_finds_17 : decode cX11_finds 17 = .ok (.aload_n 0, 1) := by decide +kernel
theorem dX11_finds_18 : decode cX11_finds 18 = .ok (.getfield 162, 3) := by decide +kernel
theorem dX11_finds_21 : decode cX11_finds 21 = .ok (.iconst 1, 1) := by decide +kernel
theorem dX11_finds_22 : decode cX11_finds 22 = .ok (.iadd, 1) := by decide +kernel
theorem dX11_finds_23 : decode cX11_finds 23 = .ok (.imul, 1) := by decide +kernel
theorem dX11_finds_24 : decode cX11_finds 24 = .ok (.istore_n 2, 1) := by decide +kernel
theorem dX11_finds_25 : decode cX11_finds 25 = .ok (.iinc 3 1, 3) := by decide +kernel
theorem dX11_finds_28 : decode cX11_finds 28 = .ok (.goto (-20), 3) := by decide +kernel
theorem dX11_finds_31 : decode cX11_finds 31 = .ok (.iconst (-1), 1) := by decide +kernel
theorem dX11_finds_32 : decode cX11_finds 32 = .ok (.istore_n 3, 1) := by decide +kernel
theorem dX11_finds_33 : decode cX11_finds 33 = .ok (.iconst 0, 1) := by decide +kernel
theorem dX11_finds_34 : decode cX11_finds 34 = .ok (.istore 4, 2) := by decide +kernel
theorem dX11_finds_36 : decode cX11_finds 36 = .ok (.iconst 0, 1) := by decide +kernel
theorem dX11_finds_37 : decode cX11_finds 37 = .ok (.istore 5, 2) := by decide +kernel
theorem dX11_finds_39 : decode cX11_finds 39 = .ok (.iconst 0, 1) := by decide +kernel
theorem dX11_finds_40 : decode cX11_finds 40 = .ok (.istore 6, 2) := by decide +kernel
theorem dX11_finds_42 : decode cX11_finds 42 = .ok (.iload 6, 2) := by decide +kernel
theorem dX11_finds_44 : decode cX11_finds 44 = .ok (.iload_n 2, 1) := by decide +kernel
theorem dX11_finds_45 : decode cX11_finds 45 = .ok (.if_icmp .ge 321, 3) := by decide +kernel
theorem dX11_finds_48 : decode cX11_finds 48 = .ok (.iload 6, 2) := by decide +kernel
theorem dX11_finds_50 : decode cX11_finds 50 = .ok (.istore 7, 2) := by decide +kernel
theorem dX11_finds_52 : decode cX11_finds 52 = .ok (.iconst 0, 1) := by decide +kernel
theorem dX11_finds_53 : decode cX11_finds 53 = .ok (.istore 8, 2) := by decide +kernel
theorem dX11_finds_55 : decode cX11_finds 55 = .ok (.iconst 0, 1) := by decide +kernel
theorem dX11_finds_56 : decode cX11_finds 56 = .ok (.istore 9, 2) := by decide +kernel
theorem dX11_finds_58 : decode cX11_finds 58 = .ok (.iconst 0, 1) := by decide +kernel
theorem dX11_finds_59 : decode cX11_finds 59 = .ok (.istore 10, 2) := by decide +kernel
theorem dX11_finds_61 : decode cX11_finds 61 = .ok (.iconst 0, 1) := by decide +kernel
theorem dX11_finds_62 : decode cX11_finds 62 = .ok (.istore 11, 2) := by decide +kernel
theorem dX11_finds_64 : decode cX11_finds 64 = .ok (.iload 11, 2) := by decide +kernel
theorem dX11_finds_66 : decode cX11_finds 66 = .ok (.aload_n 0, 1) := by decide +kernel
theorem dX11_finds_67 : decode cX11_finds 67 = .ok (.getfield 162, 3) := by decide +kernel
theorem dX11_finds_70 : decode cX11_finds 70 = .ok (.if_icmp .ge 17, 3) := by decide +kernel
theorem dX11_finds_73 : decode cX11_finds 73 = .ok (.aload_n 0, 1) := by decide +kernel
theorem dX11_finds_74 : decode cX11_finds 74 = .ok (.getfield 120, 3) := by decide +kernel
theorem dX11_finds_77 : decode cX11_finds 77 = .ok (.iload 11, 2) := by decide +kernel
theorem dX11_finds_79 : decode cX11_finds 79 = .ok (.iconst 0, 1) := by decide +kernel
theorem dX11_finds_80 : decode cX11_finds 80 = .ok (.iastore, 1) := by decide +kernel
theorem dX11_finds_81 : decode cX11_finds 81 = .ok (.iinc 11 1, 3) := by decide +kernel
theorem dX11_finds_84 : decode cX11_finds 84 = .ok (.goto (-20), 3) := by decide +kernel
theorem dX11_finds_87 : decode cX11_finds 87 = .ok (.aload_n 0, 1) := by decide +kernel
theorem dX11_finds_88 : decode cX11_finds 88 = .ok (.getfield 188, 3) := by decide +kernel
theorem dX11_finds_91 : decode cX11_finds 91 = .ok (.iconst 1, 1) := by decide +kernel
theorem dX11_finds_92 : decode cX11_finds 92 = .ok (.isub, 1) := by decide +kernel
theorem dX11_finds_93 : decode cX11_finds 93 = .ok (.istore 11, 2) := by decide +kernel
theorem dX11_finds_95 : decode cX11_finds 95 = .ok (.iload 11, 2) := by decide +kernel
theorem dX11_finds_97 : decode cX11_finds 97 = .ok (.ifCond .lt 112, 3) := by decide +kernel
theorem dX11_finds_100 : decode cX11_finds 100 = .ok (.aload_n 0, 1) := by decide +kernel
theorem dX11_finds_101 : decode cX11_finds 101 = .ok (.getfield 114, 3) := by decide +kernel
theorem dX11_finds_104 : decode cX11_finds 104 = .ok (.iload 11, 2) := by decide +kernel
theorem dX11_finds_106 : decode cX11_finds 106 = .ok (.iload 7, 2) := by decide +kernel
theorem dX11_finds_108 : decode cX11_finds 108 = .ok (.aload_n 0, 1) := by decide +kernel
theorem dX11_finds_109 : decode cX11_finds 109 = .ok (.getfield 162, 3) := by decide +kernel
theorem dX11_finds_112 : decode cX11_finds 112 = .ok (.iconst 1, 1) := by decide +kernel
theorem dX11_finds_113 : decode cX11_finds 113 = .ok (.iadd, 1) := by decide +kernel
theorem dX11_finds_114 : decode cX11_finds 114 = .ok (.irem, 1) := by decide +kernel
theorem dX11_finds_115 : decode cX11_finds 115 = .ok (.iastore, 1) := by decide +kernel
theorem dX11_finds_116 : decode cX11_finds 116 = .ok (.iload 7, 2) := by decide +kernel
theorem dX11_finds_118 : decode cX11_finds 118 = .ok (.aload_n 0, 1) := by decide +kernel
theorem dX11_finds_119 : decode cX11_finds 119 = .ok (.getfield 162, 3) := by decide +kernel
theorem dX11_finds_122 : decode cX11_finds 122 = .ok (.iconst 1, 1) := by decide +kernel
theorem dX11_finds_123 : decode cX11_finds 123 = .ok (.iadd, 1) := by decide +kernel
theorem dX11_finds_124 : decode cX11_finds 124 = .ok (.idiv, 1) := by decide +kernel
theorem dX11_finds_125 : decode cX11_finds 125 = .ok (.istore 7, 2) := by decide +kernel
theorem dX11_finds_127 : decode cX11_finds 127 = .ok (.aload_n 0, 1) := by decide +kernel
theorem dX11_finds_128 : decode cX11_finds 128 = .ok (.getfield 114, 3) := by decide +kernel
theorem dX11_finds_131 : decode cX11_finds 131 = .ok (.iload 11, 2) := by decide +kernel
theorem dX11_finds_133 : decode cX11_finds 133 = .ok (.iaload, 1) := by decide +kernel
theorem dX11_finds_134 : decode cX11_finds 134 = .ok (.aload_n 0, 1) := by decide +kernel
theorem dX11_finds_135 : decode cX11_finds 135 = .ok (.getfield 162, 3) := by decide +kernel
theorem dX11_finds_138 : decode cX11_finds 138 = .ok (.if_icmp .ge 22, 3) := by decide +kernel
theorem dX11_finds_141 : decode cX11_finds 141 = .ok (.aload_n 0, 1) := by decide +kernel
theorem dX11_finds_142 : decode cX11_finds 142 = .ok (.getfield 120, 3) := by decide +kernel
theorem dX11_finds_145 : decode cX11_finds 145 = .ok (.aload_n 0, 1) := by decide +kernel
theorem dX11_finds_146 : decode cX11_finds 146 = .ok (.getfield 114, 3) := by decide +kernel
theorem dX11_finds_149 : decode cX11_finds 149 = .ok (.iload 11, 2) := by decide +kernel
theorem dX11_finds_151 : decode cX11_finds 151 = .ok (.iaload, 1) := by decide +kernel
theorem dX11_finds_152 : decode cX11_finds 152 = .ok (.dup2, 1) := by decide +kernel
theorem dX11_finds_153 : decode cX11_finds 153 = .ok (.iaload, 1) := by decide +kernel
theorem dX11_finds_154 : decode cX11_finds 154 = .ok (.iconst 1, 1) := by decide +kernel
theorem dX11_finds_155 : decode cX11_finds 155 = .ok (.iload 11, 2) := by decide +kernel
theorem dX11_finds_157 : decode cX11_finds 157 = .ok (.ishl, 1) := by decide +kernel
theorem dX11_finds_158 : decode cX11_finds 158 = .ok (.ior, 1) := by decide +kernel
theorem dX11_finds_159 : decode cX11_finds 159 = .ok (.iastore, 1) := by decide +kernel
theorem dX11_finds_160 : decode cX11_finds 160 = .ok (.iload 8, 2) := by decide +kernel
theorem dX11_finds_162 : decode cX11_finds 162 = .ok (.aload_n 0, 1) := by decide +kernel
theorem dX11_finds_163 : decode cX11_finds 163 = .ok (.getfield 114, 3) := by decide +kernel
theorem dX11_finds_166 : decode cX11_finds 166 = .ok (.iload 11, 2) := by decide +kernel
theorem dX11_finds_168 : decode cX11_finds 168 = .ok (.iaload, 1) := by decide +kernel
theorem dX11_finds_169 : decode cX11_finds 169 = .ok (.aload_n 0, 1) := by decide +kernel
theorem dX11_finds_170 : decode cX11_finds 170 = .ok (.getfield 162, 3) := by decide +kernel
theorem dX11_finds_173 : decode cX11_finds 173 = .ok (.if_icmp .ge 7, 3) := by decide +kernel
theorem dX11_finds_176 : decode cX11_finds 176 = .ok (.iconst 1, 1) := by decide +kernel
theorem dX11_finds_177 : decode cX11_finds 177 = .ok (.goto 4, 3) := by decide +kernel
theorem dX11_finds_180 : decode cX11_finds 180 = .ok (.iconst 0, 1) := by decide +kernel
theorem dX11_finds_181 : decode cX11_finds 181 = .ok (.iadd, 1) := by decide +kernel
theorem dX11_finds_182 : decode cX11_finds 182 = .ok (.istore 8, 2) := by decide +kernel
theorem dX11_finds_184 : decode cX11_finds 184 = .ok (.iload 9, 2) := by decide +kernel
theorem dX11_finds_186 : decode cX11_finds 186 = .ok (.iload_n 1, 1) := by decide +kernel
theorem dX11_finds_187 : decode cX11_finds 187 = .ok (.ifCond .eq 12, 3) := by decide +kernel
theorem dX11_finds_190 : decode cX11_finds 190 = .ok (.aload_n 0, 1) := by decide +kernel
theorem dX11_finds_191 : decode cX11_finds 191 = .ok (.iload 11, 2) := by decide +kernel
theorem dX11_finds_193 : decode cX11_finds 193 = .ok (.invokevirtual 217, 3) := by decide +kernel
theorem dX11_finds_196 : decode cX11_finds 196 = .ok (.goto 4, 3) := by decide +kernel
theorem dX11_finds_199 : decode cX11_finds 199 = .ok (.iconst 0, 1) := by decide +kernel
theorem dX11_finds_200 : decode cX11_finds 200 = .ok (.iadd, 1) := by decide +kernel
theorem dX11_finds_201 : decode cX11_finds 201 = .ok (.istore 9, 2) := by decide +kernel
theorem dX11_finds_203 : decode cX11_finds 203 = .ok (.iinc 11 (-1), 3) := by decide +kernel
theorem dX11_finds_206 : decode cX11_finds 206 = .ok (.goto (-111), 3) := by decide +kernel
theorem dX11_finds_209 : decode cX11_finds 209 = .ok (.iconst 1, 1) := by decide +kernel
theorem dX11_finds_210 : decode cX11_finds 210 = .ok (.istore 11, 2) := by decide +kernel
theorem dX11_finds_212 : decode cX11_finds 212 = .ok (.iconst 0, 1) := by decide +kernel
theorem dX11_finds_213 : decode cX11_finds 213 = .ok (.istore 12, 2) := by decide +kernel
theorem dX11_finds_215 : decode cX11_finds 215 = .ok (.iload 12, 2) := by decide +kernel
theorem dX11_finds_217 : decode cX11_finds 217 = .ok (.aload_n 0, 1) := by decide +kernel
theorem dX11_finds_218 : decode cX11_finds 218 = .ok (.getfield 162, 3) := by decide +kernel
theorem dX11_finds_221 : decode cX11_finds 221 = .ok (.if_icmp .ge 55, 3) := by decide +kernel
theorem dX11_finds_224 : decode cX11_finds 224 = .ok (.aload_n 0, 1) := by decide +kernel
theorem dX11_finds_225 : decode cX11_finds 225 = .ok (.getfield 111, 3) := by decide +kernel
theorem dX11_finds_228 : decode cX11_finds 228 = .ok (.sipush 256, 3) := by decide +kernel
theorem dX11_finds_231 : decode cX11_finds 231 = .ok (.iload 12, 2) := by decide +kernel
theorem dX11_finds_233 : decode cX11_finds 233 = .ok (.imul, 1) := by decide +kernel
theorem dX11_finds_234 : decode cX11_finds 234 = .ok (.aload_n 0, 1) := by decide +kernel
theorem dX11_finds_235 : decode cX11_finds 235 = .ok (.getfield 120, 3) := by decide +kernel
theorem dX11_finds_238 : decode cX11_finds 238 = .ok (.iload 12, 2) := by decide +kernel
theorem dX11_finds_240 : decode cX11_finds 240 = .ok (.iaload, 1) := by decide +kernel
theorem dX11_finds_241 : decode cX11_finds 241 = .ok (.iadd, 1) := by decide +kernel
theorem dX11_finds_242 : decode cX11_finds 242 = .ok (.iaload, 1) := by decide +kernel
theorem dX11_finds_243 : decode cX11_finds 243 = .ok (.istore 13, 2) := by decide +kernel
theorem dX11_finds_245 : decode cX11_finds 245 = .ok (.iload 11, 2) := by decide +kernel
theorem dX11_finds_247 : decode cX11_finds 247 = .ok (.ifCond .eq 13, 3) := by decide +kernel
theorem dX11_finds_250 : decode cX11_finds 250 = .ok (.iload 13, 2) := by decide +kernel
theorem dX11_finds_252 : decode cX11_finds 252 = .ok (.iconst (-1), 1) := by decide +kernel
theorem dX11_finds_253 : decode cX11_finds 253 = .ok (.if_icmp .eq 7, 3) := by decide +kernel
theorem dX11_finds_256 : decode cX11_finds 256 = .ok (.iconst 1, 1) := by decide +kernel
theorem dX11_finds_257 : decode cX11_finds 257 = .ok (.goto 4, 3) := by decide +kernel
theorem dX11_finds_260 : decode cX11_finds 260 = .ok (.iconst 0, 1) := by decide +kernel
theorem dX11_finds_261 : decode cX11_finds 261 = .ok (.istore 11, 2) := by decide +kernel
theorem dX11_finds_263 : decode cX11_finds 263 = .ok (.iload 10, 2) := by decide +kernel
theorem dX11_finds_265 : decode cX11_finds 265 = .ok (.iload 13, 2) := by decide +kernel
theorem dX11_finds_267 : decode cX11_finds 267 = .ok (.iadd, 1) := by decide +kernel
theorem dX11_finds_268 : decode cX11_finds 268 = .ok (.istore 10, 2) := by decide +kernel
theorem dX11_finds_270 : decode cX11_finds 270 = .ok (.iinc 12 1, 3) := by decide +kernel
theorem dX11_finds_273 : decode cX11_finds 273 = .ok (.goto (-58), 3) := by decide +kernel
theorem dX11_finds_276 : decode cX11_finds 276 = .ok (.iload 11, 2) := by decide +kernel
theorem dX11_finds_278 : decode cX11_finds 278 = .ok (.ifCond .eq 82, 3) := by decide +kernel
theorem dX11_finds_281 : decode cX11_finds 281 = .ok (.iload 8, 2) := by decide +kernel
theorem dX11_finds_283 : decode cX11_finds 283 = .ok (.iload_n 3, 1) := by decide +kernel
theorem dX11_finds_284 : decode cX11_finds 284 = .ok (.if_icmp .lt 76, 3) := by decide +kernel
theorem dX11_finds_287 : decode cX11_finds 287 = .ok (.iload 8, 2) := by decide +kernel
theorem dX11_finds_289 : decode cX11_finds 289 = .ok (.iload_n 3, 1) := by decide +kernel
theorem dX11_finds_290 : decode cX11_finds 290 = .ok (.if_icmp .ne 27, 3) := by decide +kernel
theorem dX11_finds_293 : decode cX11_finds 293 = .ok (.iload 9, 2) := by decide +kernel
theorem dX11_finds_295 : decode cX11_finds 295 = .ok (.iload 4, 2) := by decide +kernel
theorem dX11_finds_297 : decode cX11_finds 297 = .ok (.if_icmp .gt 63, 3) := by decide +kernel
theorem dX11_finds_300 : decode cX11_finds 300 = .ok (.iload 9, 2) := by decide +kernel
theorem dX11_finds_302 : decode cX11_finds 302 = .ok (.iload 4, 2) := by decide +kernel
theorem dX11_finds_304 : decode cX11_finds 304 = .ok (.if_icmp .ne 13, 3) := by decide +kernel
theorem dX11_finds_307 : decode cX11_finds 307 = .ok (.iload 10, 2) := by decide +kernel
theorem dX11_finds_309 : decode cX11_finds 309 = .ok (.iload 5, 2) := by decide +kernel
theorem dX11_finds_311 : decode cX11_finds 311 = .ok (.if_icmp .lt 6, 3) := by decide +kernel
theorem dX11_finds_314 : decode cX11_finds 314 = .ok (.goto 46, 3) := by decide +kernel
theorem dX11_finds_317 : decode cX11_finds 317 = .ok (.iload 8, 2) := by decide +kernel
theorem dX11_finds_319 : decode cX11_finds 319 = .ok (.istore_n 3, 1) := by decide +kernel
theorem dX11_finds_320 : decode cX11_finds 320 = .ok (.iload 9, 2) := by decide +kernel
theorem dX11_finds_322 : decode cX11_finds 322 = .ok (.istore 4, 2) := by decide +kernel
theorem dX11_finds_324 : decode cX11_finds 324 = .ok (.iload 10, 2) := by decide +kernel
theorem dX11_finds_326 : decode cX11_finds 326 = .ok (.istore 5, 2) := by decide +kernel
theorem dX11_finds_328 : decode cX11_finds 328 = .ok (.iconst 0, 1) := by decide +kernel
theorem dX11_finds_329 : decode cX11_finds 329 = .ok (.istore 12, 2) := by decide +kernel
theorem dX11_finds_331 : decode cX11_finds 331 = .ok (.iload 12, 2) := by decide +kernel
theorem dX11_finds_333 : decode cX11_finds 333 = .ok (.aload_n 0, 1) := by decide +kernel
theorem dX11_finds_334 : decode cX11_finds 334 = .ok (.getfield 188, 3) := by decide +kernel
theorem dX11_finds_337 : decode cX11_finds 337 = .ok (.if_icmp .ge 23, 3) := by decide +kernel
theorem dX11_finds_340 : decode cX11_finds 340 = .ok (.aload_n 0, 1) := by decide +kernel
theorem dX11_finds_341 : decode cX11_finds 341 = .ok (.getfield 117, 3) := by decide +kernel
theorem dX11_finds_344 : decode cX11_finds 344 = .ok (.iload 12, 2) := by decide +kernel
theorem dX11_finds_346 : decode cX11_finds 346 = .ok (.aload_n 0, 1) := by decide +kernel
theorem dX11_finds_347 : decode cX11_finds 347 = .ok (.getfield 114, 3) := by decide +kernel
theorem dX11_finds_350 : decode cX11_finds 350 = .ok (.iload 12, 2) := by decide +kernel
theorem dX11_finds_352 : decode cX11_finds 352 = .ok (.iaload, 1) := by decide +kernel
theorem dX11_finds_353 : decode cX11_finds 353 = .ok (.iastore, 1) := by decide +kernel
theorem dX11_finds_354 : decode cX11_finds 354 = .ok (.iinc 12 1, 3) := by decide +kernel
theorem dX11_finds_357 : decode cX11_finds 357 = .ok (.goto (-26), 3) := by decide +kernel
theorem dX11_finds_360 : decode cX11_finds 360 = .ok (.iinc 6 1, 3) := by decide +kernel
theorem dX11_finds_363 : decode cX11_finds 363 = .ok (.goto (-321), 3) := by decide +kernel
theorem dX11_finds_366 : decode cX11_finds 366 = .ok (.iconst 0, 1) := by decide +kernel
theorem dX11_finds_367 : decode cX11_finds 367 = .ok (.istore 6, 2) := by decide +kernel
theorem dX11_finds_369 : decode cX11_finds 369 = .ok (.iconst 0, 1) := by decide +kernel
theorem dX11_finds_370 : decode cX11_finds 370 = .ok (.istore 7, 2) := by decide +kernel
theorem dX11_finds_372 : decode cX11_finds 372 = .ok (.iload 7, 2) := by decide +kernel
theorem dX11_finds_374 : decode cX11_finds 374 = .ok (.aload_n 0, 1) := by decide +kernel
theorem dX11_finds_375 : decode cX11_finds 375 = .ok (.getfield 188, 3) := by decide +kernel
theorem dX11_finds_378 : decode cX11_finds 378 = .ok (.if_icmp .ge 93, 3) := by decide +kernel
theorem dX11_finds_381 : decode cX11_finds 381 = .ok (.aload_n 0, 1) := by decide +kernel
theorem dX11_finds_382 : decode cX11_finds 382 = .ok (.getfield 117, 3) := by decide +kernel
theorem dX11_finds_385 : decode cX11_finds 385 = .ok (.iload 7, 2) := by decide +kernel
theorem dX11_finds_387 : decode cX11_finds 387 = .ok (.iaload, 1) := by decide +kernel
theorem dX11_finds_388 : decode cX11_finds 388 = .ok (.aload_n 0, 1) := by decide +kernel
theorem dX11_finds_389 : decode cX11_finds 389 = .ok (.getfield 162, 3) := by decide +kernel
theorem dX11_finds_392 : decode cX11_finds 392 = .ok (.if_icmp .ne 7, 3) := by decide +kernel
theorem dX11_finds_395 : decode cX11_finds 395 = .ok (.iconst (-1), 1) := by decide +kernel
theorem dX11_finds_396 : decode cX11_finds 396 = .ok (.goto 10, 3) := by decide +kernel
theorem dX11_finds_399 : decode cX11_finds 399 = .ok (.aload_n 0, 1) := by decide +kernel
theorem dX11_finds_400 : decode cX11_finds 400 = .ok (.getfield 117, 3) := by decide +kernel
theorem dX11_finds_403 : decode cX11_finds 403 = .ok (.iload 7, 2) := by decide +kernel
theorem dX11_finds_405 : decode cX11_finds 405 = .ok (.iaload, 1) := by decide +kernel
theorem dX11_finds_406 : decode cX11_finds 406 = .ok (.istore 8, 2) := by decide +kernel
theorem dX11_finds_408 : decode cX11_finds 408 = .ok (.iload 6, 2) := by decide +kernel
theorem dX11_finds_410 : decode cX11_finds 410 = .ok (.aload_n 0, 1) := by decide +kernel
theorem dX11_finds_411 : decode cX11_finds 411 = .ok (.getfield 54, 3) := by decide +kernel
theorem dX11_finds_414 : decode cX11_finds 414 = .ok (.aload_n 0, 1) := by decide +kernel
theorem dX11_finds_415 : decode cX11_finds 415 = .ok (.getfield 90, 3) := by decide +kernel
theorem dX11_finds_418 : decode cX11_finds 418 = .ok (.iload 7, 2) := by decide +kernel
theorem dX11_finds_420 : decode cX11_finds 420 = .ok (.iaload, 1) := by decide +kernel
theorem dX11_finds_421 : decode cX11_finds 421 = .ok (.iaload, 1) := by decide +kernel
theorem dX11_finds_422 : decode cX11_finds 422 = .ok (.iconst (-1), 1) := by decide +kernel
theorem dX11_finds_423 : decode cX11_finds 423 = .ok (.if_icmp .eq 24, 3) := by decide +kernel
theorem dX11_finds_426 : decode cX11_finds 426 = .ok (.aload_n 0, 1) := by decide +kernel
theorem dX11_finds_427 : decode cX11_finds 427 = .ok (.getfield 54, 3) := by decide +kernel
theorem dX11_finds_430 : decode cX11_finds 430 = .ok (.aload_n 0, 1) := by decide +kernel
theorem dX11_finds_431 : decode cX11_finds 431 = .ok (.getfield 90, 3) := by decide +kernel
theorem dX11_finds_434 : decode cX11_finds 434 = .ok (.iload 7, 2) := by decide +kernel
theorem dX11_finds_436 : decode cX11_finds 436 = .ok (.iaload, 1) := by decide +kernel
theorem dX11_finds_437 : decode cX11_finds 437 = .ok (.iaload, 1) := by decide +kernel
theorem dX11_finds_438 : decode cX11_finds 438 = .ok (.iload 8, 2) := by decide +kernel
theorem dX11_finds_440 : decode cX11_finds 440 = .ok (.if_icmp .eq 7, 3) := by decide +kernel
theorem dX11_finds_443 : decode cX11_finds 443 = .ok (.iconst 1, 1) := by decide +kernel
theorem dX11_finds_444 : decode cX11_finds 444 = .ok (.goto 4, 3) := by decide +kernel
theorem dX11_finds_447 : decode cX11_finds 447 = .ok (.iconst 0, 1) := by decide +kernel
theorem dX11_finds_448 : decode cX11_finds 448 = .ok (.iadd, 1) := by decide +kernel
theorem dX11_finds_449 : decode cX11_finds 449 = .ok (.istore 6, 2) := by decide +kernel
theorem dX11_finds_451 : decode cX11_finds 451 = .ok (.aload_n 0, 1) := by decide +kernel
theorem dX11_finds_452 : decode cX11_finds 452 = .ok (.getfield 54, 3) := by decide +kernel
theorem dX11_finds_455 : decode cX11_finds 455 = .ok (.aload_n 0, 1) := by decide +kernel
theorem dX11_finds_456 : decode cX11_finds 456 = .ok (.getfield 90, 3) := by decide +kernel
theorem dX11_finds_459 : decode cX11_finds 459 = .ok (.iload 7, 2) := by decide +kernel
theorem dX11_finds_461 : decode cX11_finds 461 = .ok (.iaload, 1) := by decide +kernel
theorem dX11_finds_462 : decode cX11_finds 462 = .ok (.iload 8, 2) := by decide +kernel
theorem dX11_finds_464 : decode cX11_finds 464 = .ok (.iastore, 1) := by decide +kernel
theorem dX11_finds_465 : decode cX11_finds 465 = .ok (.iinc 7 1, 3) := by decide +kernel
theorem dX11_finds_468 : decode cX11_finds 468 = .ok (.goto (-96), 3) := by decide +kernel
theorem dX11_finds_471 : decode cX11_finds 471 = .ok (.aload_n 0, 1) := by decide +kernel
theorem dX11_finds_472 : decode cX11_finds 472 = .ok (.invokevirtual 176, 3) := by decide +kernel
theorem dX11_finds_475 : decode cX11_finds 475 = .ok (.iload 6, 2) := by decide +kernel
theorem dX11_finds_477 : decode cX11_finds 477 = .ok (.ireturn, 1) := by decide +kernel
end
section
theorem dX11_flown_0 : decode cX11_flown 0 = .ok (.iconst 0, 1) := by decide +kernel
theorem dX11_flown_1 : decode cX11_flown 1 = .ok (.istore_n 1, 1) := by decide +kernel
theorem dX11_flown_2 : decode cX11_flown 2 = .ok (.iconst 0, 1) := by decide +kernel
theorem dX11_flown_3 : decode cX11_flown 3 = .ok (.istore_n 2, 1) := by decide +kernel
theorem dX11_flown_4 : decode cX11_flown 4 = .ok (.iload_n 2, 1) := by decide +kernel
theorem dX11_flown_5 : decode cX11_flown 5 = .ok (.aload_n 0, 1) := by decide +kernel
theorem dX11_flown_6 : decode cX11_flown 6 = .ok (.getfield 159, 3) := by decide +kernel
theorem dX11_flown_9 : decode cX11_flown 9 = .ok (.if_icmp .ge 27, 3) := by decide +kernel
theorem dX11_flown_12 : decode cX11_flown 12 = .ok (.iload_n 1, 1) := by decide +kernel
theorem dX11_flown_13 : decode cX11_flown 13 = .ok (.aload_n 0, 1) := by decide +kernel
theorem dX11_flown_14 : decode cX11_flown 14 = .ok (.getfield 54, 3) := by decide +kernel
theorem dX11_flown_17 : decode cX11_flown 17 = .ok (.iload_n 2, 1) := by decide +kernel
theorem dX11_flown_18 : decode cX11_flown 18 = .ok (.iaload, 1) := by decide +kernel
theorem dX11_flown_19 : decode cX11_flown 19 = .ok (.iconst (-1), 1) := by decide +kernel
theorem dX11_flown_20 : decode cX11_flown 20 = .ok (.if_icmp .ne 7, 3) := by decide +kernel
theorem dX11_flown_23 : decode cX11_flown 23 = .ok (.iconst 0, 1) := by decide +kernel
theorem dX11_flown_24 : decode cX11_flown 24 = .ok (.goto 4, 3) := by decide +kernel
theorem dX11_flown_27 : decode cX11_flown 27 = .ok (.iconst 1, 1) := by decide +kernel
theorem dX11_flown_28 : decode cX11_flown 28 = .ok (.iadd, 1) := by decide +kernel
theorem dX11_flown_29 : decode cX11_flown 29 = .ok (.istore_n 1, 1) := by decide +kernel
theorem dX11_flown_30 : decode cX11_flown 30 = .ok (.iinc 2 1, 3) := by decide +kernel
theorem dX11_flown_33 : decode cX11_flown 33 = .ok (.goto (-29), 3) := by decide +kernel
theorem dX11_flown_36 : decode cX11_flown 36 = .ok (.iload_n 1, 1) := by decide +kernel
theorem dX11_flown_37 : decode cX11_flown 37 = .ok (.ireturn, 1) := by decide +kernel
theorem dX11_plan_0 : decode cX11_plan 0 = .ok (.aload_n 0, 1) := by decide +kernel
theorem dX11_plan_1 : decode cX11_plan 1 = .ok (.iconst 0, 1) := by decide +kernel
theorem dX11_plan_2 : decode cX11_plan 2 = .ok (.invokevirtual 220, 3) := by decide +kernel
theorem dX11_plan_5 : decode cX11_plan 5 = .ok (.istore_n 1, 1) := by decide +kernel
theorem dX11_plan_6 : decode cX11_plan 6 = .ok (.aload_n 0, 1) := by decide +kernel
theorem dX11_plan_7 : decode cX11_plan 7 = .ok (.invokevirtual 224, 3) := by decide +kernel
theorem dX11_plan_10 : decode cX11_plan 10 = .ok (.ireturn, 1) := by decide +kernel
theorem dX11_replan_0 : decode cX11_replan 0 = .ok (.aload_n 0, 1) := by decide +kernel
theorem dX11_replan_1 : decode cX11_replan 1 = .ok (.iconst 1, 1) := by decide +kernel
theorem dX11_replan_2 : decode cX11_replan 2 = .ok (.invokevirtual 220, 3) := by decide +kernel
theorem dX11_replan_5 : decode cX11_replan 5 = .ok (.ireturn, 1) := by decide +kernel
theorem dX11_hand_0 : decode cX11_hand 0 = .ok (.aload_n 0, 1) := by decide +kernel
theorem dX11_hand_1 : decode cX11_hand 1 = .ok (.invokevirtual 201, 3) := by decide +kernel
theorem dX11_hand_4 : decode cX11_hand 4 = .ok (.iconst 0, 1) := by decide +kernel
theorem dX11_hand_5 : decode cX11_hand 5 = .ok (.istore_n 2, 1) := by decide +kernel
theorem dX11_hand_6 : decode cX11_hand 6 = .ok (.iconst 0, 1) := by decide +kernel
theorem dX11_hand_7 : decode cX11_hand 7 = .ok (.istore_n 3, 1) := by decide +kernel
theorem dX11_hand_8 : decode cX11_hand 8 = .ok (.iload_n 3, 1) := by decide +kernel
theorem dX11_hand_9 : decode cX11_hand 9 = .ok (.aload_n 0, 1) := by decide +kernel
theorem dX11_hand_10 : decode cX11_hand 10 = .ok (.getfield 188, 3) := by decide +kernel
theorem dX11_hand_13 : decode cX11_hand 13 = .ok (.if_icmp .ge 34, 3) := by decide +kernel
theorem dX11_hand_16 : decode cX11_hand 16 = .ok (.iload_n 2, 1) := by decide +kernel
theorem dX11_hand_17 : decode cX11_hand 17 = .ok (.aload_n 0, 1) := by decide +kernel
theorem dX11_hand_18 : decode cX11_hand 18 = .ok (.getfield 54, 3) := by decide +kernel
theorem dX11_hand_21 : decode cX11_hand 21 = .ok (.aload_n 0, 1) := by decide +kernel
theorem dX11_hand_22 : decode cX11_hand 22 = .ok (.getfield 90, 3) := by decide +kernel
theorem dX11_hand_25 : decode cX11_hand 25 = .ok (.iload_n 3, 1) := by decide +kernel
theorem dX11_hand_26 : decode cX11_hand 26 = .ok (.iaload, 1) := by decide +kernel
theorem dX11_hand_27 : decode cX11_hand 27 = .ok (.iaload, 1) := by decide +kernel
theorem dX11_hand_28 : decode cX11_hand 28 = .ok (.iload_n 1, 1) := by decide +kernel
theorem dX11_hand_29 : decode cX11_hand 29 = .ok (.if_icmp .ne 9, 3) := by decide +kernel
theorem dX11_hand_32 : decode cX11_hand 32 = .ok (.iconst 1, 1) := by decide +kernel
theorem dX11_hand_33 : decode cX11_hand 33 = .ok (.iload_n 3, 1) := by decide +kernel
theorem dX11_hand_34 : decode cX11_hand 34 = .ok (.ishl, 1) := by decide +kernel
theorem dX11_hand_35 : decode cX11_hand 35 = .ok (.goto 4, 3) := by decide +kernel
theorem dX11_hand_38 : decode cX11_hand 38 = .ok (.iconst 0, 1) := by decide +kernel
theorem dX11_hand_39 : decode cX11_hand 39 = .ok (.ior, 1) := by decide +kernel
theorem dX11_hand_40 : decode cX11_hand 40 = .ok (.istore_n 2, 1) := by decide +kernel
theorem dX11_hand_41 : decode cX11_hand 41 = .ok (.iinc 3 1, 3) := by decide +kernel
theorem dX11_hand_44 : decode cX11_hand 44 = .ok (.goto (-36), 3) := by decide +kernel
theorem dX11_hand_47 : decode cX11_hand 47 = .ok (.aload_n 0, 1) := by decide +kernel
theorem dX11_hand_48 : decode cX11_hand 48 = .ok (.iload_n 1, 1) := by decide +kernel
theorem dX11_hand_49 : decode cX11_hand 49 = .ok (.iload_n 2, 1) := by decide +kernel
theorem dX11_hand_50 : decode cX11_hand 50 = .ok (.invokevirtual 204, 3) := by decide +kernel
theorem dX11_hand_53 : decode cX11_hand 53 = .ok (.return_, 1) := by decide +kernel
theorem dX11_fits_0 : decode cX11_fits 0 = .ok (.iconst 0, 1) := by decide +kernel
theorem dX11_fits_1 : decode cX11_fits 1 = .ok (.istore_n 1, 1) := by decide +kernel
theorem dX11_fits_2 : decode cX11_fits 2 = .ok (.iload_n 1, 1) := by decide +kernel
theorem dX11_fits_3 : decode cX11_fits 3 = .ok (.aload_n 0, 1) := by decide +kernel
theorem dX11_fits_4 : decode cX11_fits 4 = .ok (.getfield 162, 3) := by decide +kernel
theorem dX11_fits_7 : decode cX11_fits 7 = .ok (.if_icmp .ge 24, 3) := by decide +kernel
theorem dX11_fits_10 : decode cX11_fits 10 = .ok (.aload_n 0, 1) := by decide +kernel
theorem dX11_fits_11 : decode cX11_fits 11 = .ok (.iload_n 1, 1) := by decide +kernel
theorem dX11_fits_12 : decode cX11_fits 12 = .ok (.invokevirtual 227, 3) := by decide +kernel
theorem dX11_fits_15 : decode cX11_fits 15 = .ok (.aload_n 0, 1) := by decide +kernel
theorem dX11_fits_16 : decode cX11_fits 16 = .ok (.iload_n 1, 1) := by decide +kernel
theorem dX11_fits_17 : decode cX11_fits 17 = .ok (.invokevirtual 208, 3) := by decide +kernel
theorem dX11_fits_20 : decode cX11_fits 20 = .ok (.ifCond .ne 5, 3) := by decide +kernel
theorem dX11_fits_23 : decode cX11_fits 23 = .ok (.iconst 0, 1) := by decide +kernel
theorem dX11_fits_24 : decode cX11_fits 24 = .ok (.ireturn, 1) := by decide +kernel
theorem dX11_fits_25 : decode cX11_fits 25 = .ok (.iinc 1 1, 3) := by decide +kernel
theorem dX11_fits_28 : decode cX11_fits 28 = .ok (.goto (-26), 3) := by decide +kernel
theorem dX11_fits_31 : decode cX11_fits 31 = .ok (.iconst 1, 1) := by decide +kernel
theorem dX11_fits_32 : decode cX11_fits 32 = .ok (.ireturn, 1) := by decide +kernel
theorem dX11_on_0 : decode cX11_on 0 = .ok (.aload_n 0, 1) := by decide +kernel
theorem dX11_on_1 : decode cX11_on 1 = .ok (.iload_n 1, 1) := by decide +kernel
theorem dX11_on_2 : decode cX11_on 2 = .ok (.invokevirtual 172, 3) := by decide +kernel
theorem dX11_on_5 : decode cX11_on 5 = .ok (.ifCond .eq 12, 3) := by decide +kernel
theorem dX11_on_8 : decode cX11_on 8 = .ok (.aload_n 0, 1) := by decide +kernel
theorem dX11_on_9 : decode cX11_on 9 = .ok (.getfield 54, 3) := by decide +kernel
theorem dX11_on_12 : decode cX11_on 12 = .ok (.iload_n 1, 1) := by decide +kernel
theorem dX11_on_13 : decode cX11_on 13 = .ok (.iaload, 1) := by decide +kernel
theorem dX11_on_14 : decode cX11_on 14 = .ok (.goto 4, 3) := by decide +kernel
theorem dX11_on_17 : decode cX11_on 17 = .ok (.iconst (-1), 1) := by decide +kernel
theorem dX11_on_18 : decode cX11_on 18 = .ok (.ireturn, 1) := by decide +kernel
theorem dX11_move_0 : decode cX11_move 0 = .ok (.iload_n 1, 1) := by decide +kernel
theorem dX11_move_1 : decode cX11_move 1 = .ok (.iconst 0, 1) := by decide +kernel
theorem dX11_move_2 : decode cX11_move 2 = .ok (.aload_n 0, 1) := by decide +kernel
theorem dX11_move_3 : decode cX11_move 3 = .ok (.getfield 162, 3) := by decide +kernel
theorem dX11_move_6 : decode cX11_move 6 = .ok (.iconst 1, 1) := by decide +kernel
theorem dX11_move_7 : decode cX11_move 7 = .ok (.isub, 1) := by decide +kernel
theorem dX11_move_8 : decode cX11_move 8 = .ok (.invokestatic 141, 3) := by decide +kernel
theorem dX11_move_11 : decode cX11_move 11 = .ok (.ifCond .ne 5, 3) := by decide +kernel
theorem dX11_move_14 : decode cX11_move 14 = .ok (.iconst (-1), 1) := by decide +kernel
theorem dX11_move_15 : decode cX11_move 15 = .ok (.ireturn, 1) := by decide +kernel
theorem dX11_move_16 : decode cX11_move 16 = .ok (.aload_n 0, 1) := by decide +kernel
theorem dX11_move_17 : decode cX11_move 17 = .ok (.iload_n 1, 1) := by decide +kernel
theorem dX11_move_18 : decode cX11_move 18 = .ok (.invokevirtual 227, 3) := by decide +kernel
theorem dX11_move_21 : decode cX11_move 21 = .ok (.iload_n 2, 1) := by decide +kernel
theorem dX11_move_22 : decode cX11_move 22 = .ok (.iconst 0, 1) := by decide +kernel
theorem dX11_move_23 : decode cX11_move 23 = .ok (.aload_n 0, 1) := by decide +kernel
theorem dX11_move_24 : decode cX11_move 24 = .ok (.getfield 191, 3) := by decide +kernel
theorem dX11_move_27 : decode cX11_move 27 = .ok (.iconst 1, 1) := by decide +kernel
theorem dX11_move_28 : decode cX11_move 28 = .ok (.isub, 1) := by decide +kernel
theorem dX11_move_29 : decode cX11_move 29 = .ok (.invokestatic 141, 3) := by decide +kernel
theorem dX11_move_32 : decode cX11_move 32 = .ok (.ifCond .ne 5, 3) := by decide +kernel
theorem dX11_move_35 : decode cX11_move 35 = .ok (.iconst (-1), 1) := by decide +kernel
theorem dX11_move_36 : decode cX11_move 36 = .ok (.ireturn, 1) := by decide +kernel
theorem dX11_move_37 : decode cX11_move 37 = .ok (.aload_n 0, 1) := by decide +kernel
theorem dX11_move_38 : decode cX11_move 38 = .ok (.aload_n 0, 1) := by decide +kernel
theorem dX11_move_39 : decode cX11_move 39 = .ok (.getfield 96, 3) := by decide +kernel
theorem dX11_move_42 : decode cX11_move 42 = .ok (.iload_n 2, 1) := by decide +kernel
theorem dX11_move_43 : decode cX11_move 43 = .ok (.iaload, 1) := by decide +kernel
theorem dX11_move_44 : decode cX11_move 44 = .ok (.aload_n 0, 1) := by decide +kernel
theorem dX11_move_45 : decode cX11_move 45 = .ok (.getfield 99, 3) := by decide +kernel
theorem dX11_move_48 : decode cX11_move 48 = .ok (.iload_n 2, 1) := by decide +kernel
theorem dX11_move_49 : decode cX11_move 49 = .ok (.iaload, 1) := by decide +kernel
theorem dX11_move_50 : decode cX11_move 50 = .ok (.invokevirtual 165, 3) := by decide +kernel
theorem dX11_move_53 : decode cX11_move 53 = .ok (.ifCond .le 7, 3) := by decide +kernel
theorem dX11_move_56 : decode cX11_move 56 = .ok (.iconst 1, 1) := by decide +kernel
theorem dX11_move_57 : decode cX11_move 57 = .ok (.goto 4, 3) := by decide +kernel
theorem dX11_move_60 : decode cX11_move 60 = .ok (.iconst 0, 1) := by decide +kernel
theorem dX11_move_61 : decode cX11_move 61 = .ok (.istore 4, 2) := by decide +kernel
theorem dX11_move_63 : decode cX11_move 63 = .ok (.iload_n 3, 1) := by decide +kernel
theorem dX11_move_64 : decode cX11_move 64 = .ok (.tableswitch 89 0 4 #[36, 43, 50, 57, 73], 36) := by decide +kernel
theorem dX11_move_100 : decode cX11_move 100 = .ok (.aload_n 0, 1) := by decide +kernel
theorem dX11_move_101 : decode cX11_move 101 = .ok (.getfield 93, 3) := by decide +kernel
theorem dX11_move_104 : decode cX11_move 104 = .ok (.iload_n 2, 1) := by decide +kernel
theorem dX11_move_105 : decode cX11_move 105 = .ok (.iaload, 1) := by decide +kernel
theorem dX11_move_106 : decode cX11_move 106 = .ok (.ireturn, 1) := by decide +kernel
theorem dX11_move_107 : decode cX11_move 107 = .ok (.aload_n 0, 1) := by decide +kernel
theorem dX11_move_108 : decode cX11_move 108 = .ok (.getfield 96, 3) := by decide +kernel
theorem dX11_move_111 : decode cX11_move 111 = .ok (.iload_n 2, 1) := by decide +kernel
theorem dX11_move_112 : decode cX11_move 112 = .ok (.iaload, 1) := by decide +kernel
theorem dX11_move_113 : decode cX11_move 113 = .ok (.ireturn, 1) := by decide +kernel
theorem dX11_move_114 : decode cX11_move 114 = .ok (.aload_n 0, 1) := by decide +kernel
theorem dX11_move_115 : decode cX11_move 115 = .ok (.getfield 99, 3) := by decide +kernel
theorem dX11_move_118 : decode cX11_move 118 = .ok (.iload_n 2, 1) := by decide +kernel
theorem dX11_move_119 : decode cX11_move 119 = .ok (.iaload, 1) := by decide +kernel
theorem dX11_move_120 : decode cX11_move 120 = .ok (.ireturn, 1) := by decide +kernel
theorem dX11_move_121 : decode cX11_move 121 = .ok (.iload 4, 2) := by decide +kernel
theorem dX11_move_123 : decode cX11_move 123 = .ok (.ifCond .eq 12, 3) := by decide +kernel
theorem dX11_move_126 : decode cX11_move 126 = .ok (.aload_n 0, 1) := by decide +kernel
theorem dX11_move_127 : decode cX11_move 127 = .ok (.getfield 102, 3) := by decide +kernel
theorem dX11_move_130 : decode cX11_move 130 = .ok (.iload_n 2, 1) := by decide +kernel
theorem dX11_move_131 : decode cX11_move 131 = .ok (.iaload, 1) := by decide +kernel
theorem dX11_move_132 : decode cX11_move 132 = .ok (.goto 4, 3) := by decide +kernel
theorem dX11_move_135 : decode cX11_move 135 = .ok (.iconst (-1), 1) := by decide +kernel
theorem dX11_move_136 : decode cX11_move 136 = .ok (.ireturn, 1) := by decide +kernel
theorem dX11_move_137 : decode cX11_move 137 = .ok (.iload 4, 2) := by decide +kernel
theorem dX11_move_139 : decode cX11_move 139 = .ok (.ifCond .eq 12, 3) := by decide +kernel
theorem dX11_move_142 : decode cX11_move 142 = .ok (.aload_n 0, 1) := by decide +kernel
theorem dX11_move_143 : decode cX11_move 143 = .ok (.getfield 105, 3) := by decide +kernel
theorem dX11_move_146 : decode cX11_move 146 = .ok (.iload_n 2, 1) := by decide +kernel
theorem dX11_move_147 : decode cX11_move 147 = .ok (.iaload, 1) := by decide +kernel
theorem dX11_move_148 : decode cX11_move 148 = .ok (.goto 4, 3) := by decide +kernel
theorem dX11_move_151 : decode cX11_move 151 = .ok (.iconst (-1), 1) := by decide +kernel
theorem dX11_move_152 : decode cX11_move 152 = .ok (.ireturn, 1) := by decide +kernel
theorem dX11_move_153 : decode cX11_move 153 = .ok (.iconst (-1), 1) := by decide +kernel
theorem dX11_move_154 : decode cX11_move 154 = .ok (.ireturn, 1) := by decide +kernel
theorem dX11_isLeg_0 : decode cX11_isLeg 0 = .ok (.aload_n 0, 1) := by decide +kernel
theorem dX11_isLeg_1 : decode cX11_isLeg 1 = .ok (.getfield 93, 3) := by decide +kernel
theorem dX11_isLeg_4 : decode cX11_isLeg 4 = .ok (.iload_n 2, 1) := by decide +kernel
theorem dX11_isLeg_5 : decode cX11_isLeg 5 = .ok (.iaload, 1) := by decide +kernel
theorem dX11_isLeg_6 : decode cX11_isLeg 6 = .ok (.iconst (-1), 1) := by decide +kernel
theorem dX11_isLeg_7 : decode cX11_isLeg 7 = .ok (.if_icmp .ne 52, 3) := by decide +kernel
theorem dX11_isLeg_10 : decode cX11_isLeg 10 = .ok (.aload_n 0, 1) := by decide +kernel
theorem dX11_isLeg_11 : decode cX11_isLeg 11 = .ok (.getfield 108, 3) := by decide +kernel
theorem dX11_isLeg_14 : decode cX11_isLeg 14 = .ok (.iload_n 2, 1) := by decide +kernel
theorem dX11_isLeg_15 : decode cX11_isLeg 15 = .ok (.iaload, 1) := by decide +kernel
theorem dX11_isLeg_16 : decode cX11_isLeg 16 = .ok (.aload_n 0, 1) := by decide +kernel
theorem dX11_isLeg_17 : decode cX11_isLeg 17 = .ok (.getfield 87, 3) := by decide +kernel
theorem dX11_isLeg_20 : decode cX11_isLeg 20 = .ok (.iload_n 1, 1) := by decide +kernel
theorem dX11_isLeg_21 : decode cX11_isLeg 21 = .ok (.iaload, 1) := by decide +kernel
theorem dX11_isLeg_22 : decode cX11_isLeg 22 = .ok (.if_icmp .ne 37, 3) := by decide +kernel
theorem dX11_isLeg_25 : decode cX11_isLeg 25 = .ok (.aload_n 0, 1) := by decide +kernel
theorem dX11_isLeg_26 : decode cX11_isLeg 26 = .ok (.getfield 96, 3) := by decide +kernel
theorem dX11_isLeg_29 : decode cX11_isLeg 29 = .ok (.iload_n 2, 1) := by decide +kernel
theorem dX11_isLeg_30 : decode cX11_isLeg 30 = .ok (.iaload, 1) := by decide +kernel
theorem dX11_isLeg_31 : decode cX11_isLeg 31 = .ok (.aload_n 0, 1) := by decide +kernel
theorem dX11_isLeg_32 : decode cX11_isLeg 32 = .ok (.getfield 81, 3) := by decide +kernel
theorem dX11_isLeg_35 : decode cX11_isLeg 35 = .ok (.iload_n 1, 1) := by decide +kernel
theorem dX11_isLeg_36 : decode cX11_isLeg 36 = .ok (.iaload, 1) := by decide +kernel
theorem dX11_isLeg_37 : decode cX11_isLeg 37 = .ok (.if_icmp .ne 22, 3) := by decide +kernel
theorem dX11_isLeg_40 : decode cX11_isLeg 40 = .ok (.aload_n 0, 1) := by decide +kernel
theorem dX11_isLeg_41 : decode cX11_isLeg 41 = .ok (.getfield 99, 3) := by decide +kernel
theorem dX11_isLeg_44 : decode cX11_isLeg 44 = .ok (.iload_n 2, 1) := by decide +kernel
theorem dX11_isLeg_45 : decode cX11_isLeg 45 = .ok (.iaload, 1) := by decide +kernel
theorem dX11_isLeg_46 : decode cX11_isLeg 46 = .ok (.aload_n 0, 1) := by decide +kernel
theorem dX11_isLeg_47 : decode cX11_isLeg 47 = .ok (.getfield 84, 3) := by decide +kernel
theorem dX11_isLeg_50 : decode cX11_isLeg 50 = .ok (.iload_n 1, 1) := by decide +kernel
theorem dX11_isLeg_51 : decode cX11_isLeg 51 = .ok (.iaload, 1) := by decide +kernel
theorem dX11_isLeg_52 : decode cX11_isLeg 52 = .ok (.if_icmp .ne 7, 3) := by decide +kernel
theorem dX11_isLeg_55 : decode cX11_isLeg 55 = .ok (.iconst 1, 1) := by decide +kernel
theorem dX11_isLeg_56 : decode cX11_isLeg 56 = .ok (.goto 4, 3) := by decide +kernel
theorem dX11_isLeg_59 : decode cX11_isLeg 59 = .ok (.iconst 0, 1) := by decide +kernel
theorem dX11_isLeg_60 : decode cX11_isLeg 60 = .ok (.ireturn, 1) := by decide +kernel
theorem dX11_hasLeg_0 : decode cX11_hasLeg 0 = .ok (.aload_n 0, 1) := by decide +kernel
theorem dX11_hasLeg_1 : decode cX11_hasLeg 1 = .ok (.aload_n 0, 1) := by decide +kernel
theorem dX11_hasLeg_2 : decode cX11_hasLeg 2 = .ok (.getfield 78, 3) := by decide +kernel
theorem dX11_hasLeg_5 : decode cX11_hasLeg 5 = .ok (.iload_n 1, 1) := by decide +kernel
theorem dX11_hasLeg_6 : decode cX11_hasLeg 6 = .ok (.iaload, 1) := by decide +kernel
theorem dX11_hasLeg_7 : decode cX11_hasLeg 7 = .ok (.invokevirtual 227, 3) := by decide +kernel
theorem dX11_hasLeg_10 : decode cX11_hasLeg 10 = .ok (.iconst 0, 1) := by decide +kernel
theorem dX11_hasLeg_11 : decode cX11_hasLeg 11 = .ok (.istore_n 2, 1) := by decide +kernel
theorem dX11_hasLeg_12 : decode cX11_hasLeg 12 = .ok (.iload_n 2, 1) := by decide +kernel
theorem dX11_hasLeg_13 : decode cX11_hasLeg 13 = .ok (.aload_n 0, 1) := by decide +kernel
theorem dX11_hasLeg_14 : decode cX11_hasLeg 14 = .ok (.getfield 191, 3) := by decide +kernel
theorem dX11_hasLeg_17 : decode cX11_hasLeg 17 = .ok (.if_icmp .ge 20, 3) := by decide +kernel
theorem dX11_hasLeg_20 : decode cX11_hasLeg 20 = .ok (.aload_n 0, 1) := by decide +kernel
theorem dX11_hasLeg_21 : decode cX11_hasLeg 21 = .ok (.iload_n 1, 1) := by decide +kernel
theorem dX11_hasLeg_22 : decode cX11_hasLeg 22 = .ok (.iload_n 2, 1) := by decide +kernel
theorem dX11_hasLeg_23 : decode cX11_hasLeg 23 = .ok (.invokevirtual 230, 3) := by decide +kernel
theorem dX11_hasLeg_26 : decode cX11_hasLeg 26 = .ok (.ifCond .eq 5, 3) := by decide +kernel
theorem dX11_hasLeg_29 : decode cX11_hasLeg 29 = .ok (.iconst 1, 1) := by decide +kernel
theorem dX11_hasLeg_30 : decode cX11_hasLeg 30 = .ok (.ireturn, 1) := by decide +kernel
theorem dX11_hasLeg_31 : decode cX11_hasLeg 31 = .ok (.iinc 2 1, 3) := by decide +kernel
theorem dX11_hasLeg_34 : decode cX11_hasLeg 34 = .ok (.goto (-22), 3) := by decide +kernel
theorem dX11_hasLeg_37 : decode cX11_hasLeg 37 = .ok (.iconst 0, 1) := by decide +kernel
theorem dX11_hasLeg_38 : decode cX11_hasLeg 38 = .ok (.ireturn, 1) := by decide +kernel
theorem dX11_binds_0 : decode cX11_binds 0 = .ok (.aload_n 0, 1) := by decide +kernel
theorem dX11_binds_1 : decode cX11_binds 1 = .ok (.getfield 66, 3) := by decide +kernel
theorem dX11_binds_4 : decode cX11_binds 4 = .ok (.iload_n 1, 1) := by decide +kernel
theorem dX11_binds_5 : decode cX11_binds 5 = .ok (.iaload, 1) := by decide +kernel
theorem dX11_binds_6 : decode cX11_binds 6 = .ok (.ifCond .eq 13, 3) := by decide +kernel
theorem dX11_binds_9 : decode cX11_binds 9 = .ok (.aload_n 0, 1) := by decide +kernel
theorem dX11_binds_10 : decode cX11_binds 10 = .ok (.getfield 66, 3) := by decide +kernel
theorem dX11_binds_13 : decode cX11_binds 13 = .ok (.iload_n 1, 1) := by decide +kernel
theorem dX11_binds_14 : decode cX11_binds 14 = .ok (.iaload, 1) := by decide +kernel
theorem dX11_binds_15 : decode cX11_binds 15 = .ok (.iconst 1, 1) := by decide +kernel
theorem dX11_binds_16 : decode cX11_binds 16 = .ok (.if_icmp .ne 7, 3) := by decide +kernel
theorem dX11_binds_19 : decode cX11_binds 19 = .ok (.iconst 1, 1) := by decide +kernel
theorem dX11_binds_20 : decode cX11_binds 20 = .ok (.goto 4, 3) := by decide +kernel
theorem dX11_binds_23 : decode cX11_binds 23 = .ok (.iconst 0, 1) := by decide +kernel
theorem dX11_binds_24 : decode cX11_binds 24 = .ok (.ireturn, 1) := by decide +kernel
theorem dX11_breaks_0 : decode cX11_breaks 0 = .ok (.iconst 0, 1) := by decide +kernel
theorem dX11_breaks_1 : decode cX11_breaks 1 = .ok (.istore_n 1, 1) := by decide +kernel
theorem dX11_breaks_2 : decode cX11_breaks 2 = .ok (.iload_n 1, 1) := by decide +kernel
theorem dX11_breaks_3 : decode cX11_breaks 3 = .ok (.aload_n 0, 1) := by decide +kernel
theorem dX11_breaks_4 : decode cX11_breaks 4 = .ok (.getfield 185, 3) := by decide +kernel
theorem dX11_breaks_7 : decode cX11_breaks 7 = .ok (.if_icmp .ge 32, 3) := by decide +kernel
theorem dX11_breaks_10 : decode cX11_breaks 10 = .ok (.aload_n 0, 1) := by decide +kernel
theorem dX11_breaks_11 : decode cX11_breaks 11 = .ok (.iload_n 1, 1) := by decide +kernel
theorem dX11_breaks_12 : decode cX11_breaks 12 = .ok (.invokevirtual 233, 3) := by decide +kernel
theorem dX11_breaks_15 : decode cX11_breaks 15 = .ok (.ifCond .eq 18, 3) := by decide +kernel
theorem dX11_breaks_18 : decode cX11_breaks 18 = .ok (.aload_n 0, 1) := by decide +kernel
theorem dX11_breaks_19 : decode cX11_breaks 19 = .ok (.iload_n 1, 1) := by decide +kernel
theorem dX11_breaks_20 : decode cX11_breaks 20 = .ok (.invokevirtual 236, 3) := by decide +kernel
theorem dX11_breaks_23 : decode cX11_breaks 23 = .ok (.ifCond .ne 10, 3) := by decide +kernel
theorem dX11_breaks_26 : decode cX11_breaks 26 = .ok (.aload_n 0, 1) := by decide +kernel
theorem dX11_breaks_27 : decode cX11_breaks 27 = .ok (.getfield 66, 3) := by decide +kernel
theorem dX11_breaks_30 : decode cX11_breaks 30 = .ok (.iload_n 1, 1) := by decide +kernel
theorem dX11_breaks_31 : decode cX11_breaks 31 = .ok (.iconst 3, 1) := by decide +kernel
theorem dX11_breaks_32 : decode cX11_breaks 32 = .ok (.iastore, 1) := by decide +kernel
theorem dX11_breaks_33 : decode cX11_breaks 33 = .ok (.iinc 1 1, 3) := by decide +kernel
theorem dX11_breaks_36 : decode cX11_breaks 36 = .ok (.goto (-34), 3) := by decide +kernel
theorem dX11_breaks_39 : decode cX11_breaks 39 = .ok (.return_, 1) := by decide +kernel
theorem dX11_offer_0 : decode cX11_offer 0 = .ok (.aload_n 0, 1) := by decide +kernel
theorem dX11_offer_1 : decode cX11_offer 1 = .ok (.getfield 185, 3) := by decide +kernel
theorem dX11_offer_4 : decode cX11_offer 4 = .ok (.bipush 40, 2) := by decide +kernel
theorem dX11_offer_6 : decode cX11_offer 6 = .ok (.if_icmp .eq 42, 3) := by decide +kernel
theorem dX11_offer_9 : decode cX11_offer 9 = .ok (.iload_n 1, 1) := by decide +kernel
theorem dX11_offer_10 : decode cX11_offer 10 = .ok (.iconst 0, 1) := by decide +kernel
theorem dX11_offer_11 : decode cX11_offer 11 = .ok (.aload_n 0, 1) := by decide +kernel
theorem dX11_offer_12 : decode cX11_offer 12 = .ok (.getfield 162, 3) := by decide +kernel
theorem dX11_offer_15 : decode cX11_offer 15 = .ok (.iconst 1, 1) := by decide +kernel
theorem dX11_offer_16 : decode cX11_offer 16 = .ok (.isub, 1) := by decide +kernel
theorem dX11_offer_17 : decode cX11_offer 17 = .ok (.invokestatic 141, 3) := by decide +kernel
theorem dX11_offer_20 : decode cX11_offer 20 = .ok (.ifCond .eq 28, 3) := by decide +kernel
theorem dX11_offer_23 : decode cX11_offer 23 = .ok (.iload_n 3, 1) := by decide +kernel
theorem dX11_offer_24 : decode cX11_offer 24 = .ok (.iconst 0, 1) := by decide +kernel
theorem dX11_offer_25 : decode cX11_offer 25 = .ok (.ldc 239, 2) := by decide +kernel
theorem dX11_offer_27 : decode cX11_offer 27 = .ok (.invokestatic 141, 3) := by decide +kernel
theorem dX11_offer_30 : decode cX11_offer 30 = .ok (.ifCond .eq 18, 3) := by decide +kernel
theorem dX11_offer_33 : decode cX11_offer 33 = .ok (.iload 4, 2) := by decide +kernel
theorem dX11_offer_35 : decode cX11_offer 35 = .ok (.aload_n 0, 1) := by decide +kernel
theorem dX11_offer_36 : decode cX11_offer 36 = .ok (.getfield 182, 3) := by decide +kernel
theorem dX11_offer_39 : decode cX11_offer 39 = .ok (.sipush 10079, 3) := by decide +kernel
theorem dX11_offer_42 : decode cX11_offer 42 = .ok (.invokestatic 141, 3) := by decide +kernel
theorem dX11_offer_45 : decode cX11_offer 45 = .ok (.ifCond .ne 5, 3) := by decide +kernel
theorem dX11_offer_48 : decode cX11_offer 48 = .ok (.iconst (-1), 1) := by decide +kernel
theorem dX11_offer_49 : decode cX11_offer 49 = .ok (.ireturn, 1) := by decide +kernel
theorem dX11_offer_50 : decode cX11_offer 50 = .ok (.aload_n 0, 1) := by decide +kernel
theorem dX11_offer_51 : decode cX11_offer 51 = .ok (.iload_n 1, 1) := by decide +kernel
theorem dX11_offer_52 : decode cX11_offer 52 = .ok (.invokevirtual 227, 3) := by decide +kernel
theorem dX11_offer_55 : decode cX11_offer 55 = .ok (.iload_n 2, 1) := by decide +kernel
theorem dX11_offer_56 : decode cX11_offer 56 = .ok (.iconst 0, 1) := by decide +kernel
theorem dX11_offer_57 : decode cX11_offer 57 = .ok (.aload_n 0, 1) := by decide +kernel
theorem dX11_offer_58 : decode cX11_offer 58 = .ok (.getfield 191, 3) := by decide +kernel
theorem dX11_offer_61 : decode cX11_offer 61 = .ok (.iconst 1, 1) := by decide +kernel
theorem dX11_offer_62 : decode cX11_offer 62 = .ok (.isub, 1) := by decide +kernel
theorem dX11_offer_63 : decode cX11_offer 63 = .ok (.invokestatic 141, 3) := by decide +kernel
theorem dX11_offer_66 : decode cX11_offer 66 = .ok (.ifCond .eq 13, 3) := by decide +kernel
theorem dX11_offer_69 : decode cX11_offer 69 = .ok (.aload_n 0, 1) := by decide +kernel
theorem dX11_offer_70 : decode cX11_offer 70 = .ok (.getfield 93, 3) := by decide +kernel
theorem dX11_offer_73 : decode cX11_offer 73 = .ok (.iload_n 2, 1) := by decide +kernel
theorem dX11_offer_74 : decode cX11_offer 74 = .ok (.iaload, 1) := by decide +kernel
theorem dX11_offer_75 : decode cX11_offer 75 = .ok (.iconst (-1), 1) := by decide +kernel
theorem dX11_offer_76 : decode cX11_offer 76 = .ok (.if_icmp .eq 5, 3) := by decide +kernel
theorem dX11_offer_79 : decode cX11_offer 79 = .ok (.iconst (-1), 1) := by decide +kernel
theorem dX11_offer_80 : decode cX11_offer 80 = .ok (.ireturn, 1) := by decide +kernel
theorem dX11_offer_81 : decode cX11_offer 81 = .ok (.iconst 0, 1) := by decide +kernel
theorem dX11_offer_82 : decode cX11_offer 82 = .ok (.istore 5, 2) := by decide +kernel
theorem dX11_offer_84 : decode cX11_offer 84 = .ok (.iload 5, 2) := by decide +kernel
theorem dX11_offer_86 : decode cX11_offer 86 = .ok (.aload_n 0, 1) := by decide +kernel
theorem dX11_offer_87 : decode cX11_offer 87 = .ok (.getfield 185, 3) := by decide +kernel
theorem dX11_offer_90 : decode cX11_offer 90 = .ok (.if_icmp .ge 41, 3) := by decide +kernel
theorem dX11_offer_93 : decode cX11_offer 93 = .ok (.aload_n 0, 1) := by decide +kernel
theorem dX11_offer_94 : decode cX11_offer 94 = .ok (.iload 5, 2) := by decide +kernel
theorem dX11_offer_96 : decode cX11_offer 96 = .ok (.invokevirtual 233, 3) := by decide +kernel
theorem dX11_offer_99 : decode cX11_offer 99 = .ok (.ifCond .eq 26, 3) := by decide +kernel
theorem dX11_offer_102 : decode cX11_offer 102 = .ok (.aload_n 0, 1) := by decide +kernel
theorem dX11_offer_103 : decode cX11_offer 103 = .ok (.getfield 78, 3) := by decide +kernel
theorem dX11_offer_106 : decode cX11_offer 106 = .ok (.iload 5, 2) := by decide +kernel
theorem dX11_offer_108 : decode cX11_offer 108 = .ok (.iaload, 1) := by decide +kernel
theorem dX11_offer_109 : decode cX11_offer 109 = .ok (.iload_n 1, 1) := by decide +kernel
theorem dX11_offer_110 : decode cX11_offer 110 = .ok (.if_icmp .ne 15, 3) := by decide +kernel
theorem dX11_offer_113 : decode cX11_offer 113 = .ok (.aload_n 0, 1) := by decide +kernel
theorem dX11_offer_114 : decode cX11_offer 114 = .ok (.iload 5, 2) := by decide +kernel
theorem dX11_offer_116 : decode cX11_offer 116 = .ok (.iload_n 2, 1) := by decide +kernel
theorem dX11_offer_117 : decode cX11_offer 117 = .ok (.invokevirtual 230, 3) := by decide +kernel
theorem dX11_offer_120 : decode cX11_offer 120 = .ok (.ifCond .eq 5, 3) := by decide +kernel
theorem dX11_offer_123 : decode cX11_offer 123 = .ok (.iconst (-1), 1) := by decide +kernel
theorem dX11_offer_124 : decode cX11_offer 124 = .ok (.ireturn, 1) := by decide +kernel
theorem dX11_offer_125 : decode cX11_offer 125 = .ok (.iinc 5 1, 3) := by decide +kernel
theorem dX11_offer_128 : decode cX11_offer 128 = .ok (.goto (-44), 3) := by decide +kernel
theorem dX11_offer_131 : decode cX11_offer 131 = .ok (.aload_n 0, 1) := by decide +kernel
theorem dX11_offer_132 : decode cX11_offer 132 = .ok (.getfield 66, 3) := by decide +kernel
theorem dX11_offer_135 : decode cX11_offer 135 = .ok (.aload_n 0, 1) := by decide +kernel
theorem dX11_offer_136 : decode cX11_offer 136 = .ok (.getfield 185, 3) := by decide +kernel
theorem dX11_offer_139 : decode cX11_offer 139 = .ok (.iconst 0, 1) := by decide +kernel
theorem dX11_offer_140 : decode cX11_offer 140 = .ok (.iastore, 1) := by decide +kernel
theorem dX11_offer_141 : decode cX11_offer 141 = .ok (.aload_n 0, 1) := by decide +kernel
theorem dX11_offer_142 : decode cX11_offer 142 = .ok (.getfield 69, 3) := by decide +kernel
theorem dX11_offer_145 : decode cX11_offer 145 = .ok (.aload_n 0, 1) := by decide +kernel
theorem dX11_offer_146 : decode cX11_offer 146 = .ok (.getfield 185, 3) := by decide +kernel
theorem dX11_offer_149 : decode cX11_offer 149 = .ok (.iload_n 3, 1) := by decide +kernel
theorem dX11_offer_150 : decode cX11_offer 150 = .ok (.iastore, 1) := by decide +kernel
theorem dX11_offer_151 : decode cX11_offer 151 = .ok (.aload_n 0, 1) := by decide +kernel
theorem dX11_offer_152 : decode cX11_offer 152 = .ok (.getfield 72, 3) := by decide +kernel
theorem dX11_offer_155 : decode cX11_offer 155 = .ok (.aload_n 0, 1) := by decide +kernel
theorem dX11_offer_156 : decode cX11_offer 156 = .ok (.getfield 185, 3) := by decide +kernel
theorem dX11_offer_159 : decode cX11_offer 159 = .ok (.iload 4, 2) := by decide +kernel
theorem dX11_offer_161 : decode cX11_offer 161 = .ok (.iastore, 1) := by decide +kernel
theorem dX11_offer_162 : decode cX11_offer 162 = .ok (.aload_n 0, 1) := by decide +kernel
theorem dX11_offer_163 : decode cX11_offer 163 = .ok (.getfield 75, 3) := by decide +kernel
theorem dX11_offer_166 : decode cX11_offer 166 = .ok (.aload_n 0, 1) := by decide +kernel
theorem dX11_offer_167 : decode cX11_offer 167 = .ok (.getfield 185, 3) := by decide +kernel
theorem dX11_offer_170 : decode cX11_offer 170 = .ok (.iconst (-1), 1) := by decide +kernel
theorem dX11_offer_171 : decode cX11_offer 171 = .ok (.iastore, 1) := by decide +kernel
theorem dX11_offer_172 : decode cX11_offer 172 = .ok (.aload_n 0, 1) := by decide +kernel
theorem dX11_offer_173 : decode cX11_offer 173 = .ok (.getfield 78, 3) := by decide +kernel
theorem dX11_offer_176 : decode cX11_offer 176 = .ok (.aload_n 0, 1) := by decide +kernel
theorem dX11_offer_177 : decode cX11_offer 177 = .ok (.getfield 185, 3) := by decide +kernel
theorem dX11_offer_180 : decode cX11_offer 180 = .ok (.iload_n 1, 1) := by decide +kernel
theorem dX11_offer_181 : decode cX11_offer 181 = .ok (.iastore, 1) := by decide +kernel
theorem dX11_offer_182 : decode cX11_offer 182 = .ok (.aload_n 0, 1) := by decide +kernel
theorem dX11_offer_183 : decode cX11_offer 183 = .ok (.getfield 81, 3) := by decide +kernel
theorem dX11_offer_186 : decode cX11_offer 186 = .ok (.aload_n 0, 1) := by decide +kernel
theorem dX11_offer_187 : decode cX11_offer 187 = .ok (.getfield 185, 3) := by decide +kernel
theorem dX11_offer_190 : decode cX11_offer 190 = .ok (.aload_n 0, 1) := by decide +kernel
theorem dX11_offer_191 : decode cX11_offer 191 = .ok (.getfield 96, 3) := by decide +kernel
theorem dX11_offer_194 : decode cX11_offer 194 = .ok (.iload_n 2, 1) := by decide +kernel
theorem dX11_offer_195 : decode cX11_offer 195 = .ok (.iaload, 1) := by decide +kernel
theorem dX11_offer_196 : decode cX11_offer 196 = .ok (.iastore, 1) := by decide +kernel
theorem dX11_offer_197 : decode cX11_offer 197 = .ok (.aload_n 0, 1) := by decide +kernel
theorem dX11_offer_198 : decode cX11_offer 198 = .ok (.getfield 84, 3) := by decide +kernel
theorem dX11_offer_201 : decode cX11_offer 201 = .ok (.aload_n 0, 1) := by decide +kernel
theorem dX11_offer_202 : decode cX11_offer 202 = .ok (.getfield 185, 3) := by decide +kernel
theorem dX11_offer_205 : decode cX11_offer 205 = .ok (.aload_n 0, 1) := by decide +kernel
theorem dX11_offer_206 : decode cX11_offer 206 = .ok (.getfield 99, 3) := by decide +kernel
theorem dX11_offer_209 : decode cX11_offer 209 = .ok (.iload_n 2, 1) := by decide +kernel
theorem dX11_offer_210 : decode cX11_offer 210 = .ok (.iaload, 1) := by decide +kernel
theorem dX11_offer_211 : decode cX11_offer 211 = .ok (.iastore, 1) := by decide +kernel
theorem dX11_offer_212 : decode cX11_offer 212 = .ok (.aload_n 0, 1) := by decide +kernel
theorem dX11_offer_213 : decode cX11_offer 213 = .ok (.getfield 87, 3) := by decide +kernel
theorem dX11_offer_216 : decode cX11_offer 216 = .ok (.aload_n 0, 1) := by decide +kernel
theorem dX11_offer_217 : decode cX11_offer 217 = .ok (.getfield 185, 3) := by decide +kernel
theorem dX11_offer_220 : decode cX11_offer 220 = .ok (.aload_n 0, 1) := by decide +kernel
theorem dX11_offer_221 : decode cX11_offer 221 = .ok (.getfield 108, 3) := by decide +kernel
theorem dX11_offer_224 : decode cX11_offer 224 = .ok (.iload_n 2, 1) := by decide +kernel
theorem dX11_offer_225 : decode cX11_offer 225 = .ok (.iaload, 1) := by decide +kernel
theorem dX11_offer_226 : decode cX11_offer 226 = .ok (.iastore, 1) := by decide +kernel
theorem dX11_offer_227 : decode cX11_offer 227 = .ok (.aload_n 0, 1) := by decide +kernel
theorem dX11_offer_228 : decode cX11_offer 228 = .ok (.dup, 1) := by decide +kernel
theorem dX11_offer_229 : decode cX11_offer 229 = .ok (.getfield 185, 3) := by decide +kernel
theorem dX11_offer_232 : decode cX11_offer 232 = .ok (.iconst 1, 1) := by decide +kernel
theorem dX11_offer_233 : decode cX11_offer 233 = .ok (.iadd, 1) := by decide +kernel
theorem dX11_offer_234 : decode cX11_offer 234 = .ok (.putfield 185, 3) := by decide +kernel
theorem dX11_offer_237 : decode cX11_offer 237 = .ok (.aload_n 0, 1) := by decide +kernel
theorem dX11_offer_238 : decode cX11_offer 238 = .ok (.getfield 185, 3) := by decide +kernel
theorem dX11_offer_241 : decode cX11_offer 241 = .ok (.iconst 1, 1) := by decide +kernel
theorem dX11_offer_242 : decode cX11_offer 242 = .ok (.isub, 1) := by decide +kernel
theorem dX11_offer_243 : decode cX11_offer 243 = .ok (.ireturn, 1) := by decide +kernel
theorem dX11_take_0 : decode cX11_take 0 = .ok (.iload_n 1, 1) := by decide +kernel
theorem dX11_take_1 : decode cX11_take 1 = .ok (.iconst 0, 1) := by decide +kernel
theorem dX11_take_2 : decode cX11_take 2 = .ok (.aload_n 0, 1) := by decide +kernel
theorem dX11_take_3 : decode cX11_take 3 = .ok (.getfield 185, 3) := by decide +kernel
theorem dX11_take_6 : decode cX11_take 6 = .ok (.iconst 1, 1) := by decide +kernel
theorem dX11_take_7 : decode cX11_take 7 = .ok (.isub, 1) := by decide +kernel
theorem dX11_take_8 : decode cX11_take 8 = .ok (.invokestatic 141, 3) := by decide +kernel
theorem dX11_take_11 : decode cX11_take 11 = .ok (.ifCond .eq 22, 3) := by decide +kernel
theorem dX11_take_14 : decode cX11_take 14 = .ok (.aload_n 0, 1) := by decide +kernel
theorem dX11_take_15 : decode cX11_take 15 = .ok (.getfield 66, 3) := by decide +kernel
theorem dX11_take_18 : decode cX11_take 18 = .ok (.iload_n 1, 1) := by decide +kernel
theorem dX11_take_19 : decode cX11_take 19 = .ok (.iaload, 1) := by decide +kernel
theorem dX11_take_20 : decode cX11_take 20 = .ok (.ifCond .ne 13, 3) := by decide +kernel
theorem dX11_take_23 : decode cX11_take 23 = .ok (.iload_n 2, 1) := by decide +kernel
theorem dX11_take_24 : decode cX11_take 24 = .ok (.iconst 0, 1) := by decide +kernel
theorem dX11_take_25 : decode cX11_take 25 = .ok (.bipush 99, 2) := by decide +kernel
theorem dX11_take_27 : decode cX11_take 27 = .ok (.invokestatic 141, 3) := by decide +kernel
theorem dX11_take_30 : decode cX11_take 30 = .ok (.ifCond .ne 5, 3) := by decide +kernel
theorem dX11_take_33 : decode cX11_take 33 = .ok (.iconst 0, 1) := by decide +kernel
theorem dX11_take_34 : decode cX11_take 34 = .ok (.ireturn, 1) := by decide +kernel
theorem dX11_take_35 : decode cX11_take 35 = .ok (.aload_n 0, 1) := by decide +kernel
theorem dX11_take_36 : decode cX11_take 36 = .ok (.getfield 66, 3) := by decide +kernel
theorem dX11_take_39 : decode cX11_take 39 = .ok (.iload_n 1, 1) := by decide +kernel
theorem dX11_take_40 : decode cX11_take 40 = .ok (.iconst 1, 1) := by decide +kernel
theorem dX11_take_41 : decode cX11_take 41 = .ok (.iastore, 1) := by decide +kernel
theorem dX11_take_42 : decode cX11_take 42 = .ok (.aload_n 0, 1) := by decide +kernel
theorem dX11_take_43 : decode cX11_take 43 = .ok (.getfield 75, 3) := by decide +kernel
theorem dX11_take_46 : decode cX11_take 46 = .ok (.iload_n 1, 1) := by decide +kernel
theorem dX11_take_47 : decode cX11_take 47 = .ok (.iload_n 2, 1) := by decide +kernel
theorem dX11_take_48 : decode cX11_take 48 = .ok (.iastore, 1) := by decide +kernel
theorem dX11_take_49 : decode cX11_take 49 = .ok (.iconst 1, 1) := by decide +kernel
theorem dX11_take_50 : decode cX11_take 50 = .ok (.ireturn, 1) := by decide +kernel
theorem dX11_told_0 : decode cX11_told 0 = .ok (.iload_n 1, 1) := by decide +kernel
theorem dX11_told_1 : decode cX11_told 1 = .ok (.iconst 0, 1) := by decide +kernel
theorem dX11_told_2 : decode cX11_told 2 = .ok (.aload_n 0, 1) := by decide +kernel
theorem dX11_told_3 : decode cX11_told 3 = .ok (.getfield 185, 3) := by decide +kernel
theorem dX11_told_6 : decode cX11_told 6 = .ok (.iconst 1, 1) := by decide +kernel
theorem dX11_told_7 : decode cX11_told 7 = .ok (.isub, 1) := by decide +kernel
theorem dX11_told_8 : decode cX11_told 8 = .ok (.invokestatic 141, 3) := by decide +kernel
theorem dX11_told_11 : decode cX11_told 11 = .ok (.ifCond .ne 5, 3) := by decide +kernel
theorem dX11_told_14 : decode cX11_told 14 = .ok (.iconst (-1), 1) := by decide +kernel
theorem dX11_told_15 : decode cX11_told 15 = .ok (.ireturn, 1) := by decide +kernel
theorem dX11_told_16 : decode cX11_told 16 = .ok (.iload_n 2, 1) := by decide +kernel
theorem dX11_told_17 : decode cX11_told 17 = .ok (.tableswitch 81 0 5 #[39, 46, 53, 60, 67, 74], 39) := by decide +kernel
theorem dX11_told_56 : decode cX11_told 56 = .ok (.aload_n 0, 1) := by decide +kernel
theorem dX11_told_57 : decode cX11_told 57 = .ok (.getfield 66, 3) := by decide +kernel
theorem dX11_told_60 : decode cX11_told 60 = .ok (.iload_n 1, 1) := by decide +kernel
theorem dX11_told_61 : decode cX11_told 61 = .ok (.iaload, 1) := by decide +kernel
theorem dX11_told_62 : decode cX11_told 62 = .ok (.ireturn, 1) := by decide +kernel
theorem dX11_told_63 : decode cX11_told 63 = .ok (.aload_n 0, 1) := by decide +kernel
theorem dX11_told_64 : decode cX11_told 64 = .ok (.getfield 69, 3) := by decide +kernel
theorem dX11_told_67 : decode cX11_told 67 = .ok (.iload_n 1, 1) := by decide +kernel
theorem dX11_told_68 : decode cX11_told 68 = .ok (.iaload, 1) := by decide +kernel
theorem dX11_told_69 : decode cX11_told 69 = .ok (.ireturn, 1) := by decide +kernel
theorem dX11_told_70 : decode cX11_told 70 = .ok (.aload_n 0, 1) := by decide +kernel
theorem dX11_told_71 : decode cX11_told 71 = .ok (.getfield 72, 3) := by decide +kernel
theorem dX11_told_74 : decode cX11_told 74 = .ok (.iload_n 1, 1) := by decide +kernel
theorem dX11_told_75 : decode cX11_told 75 = .ok (.iaload, 1) := by decide +kernel
theorem dX11_told_76 : decode cX11_told 76 = .ok (.ireturn, 1) := by decide +kernel
theorem dX11_told_77 : decode cX11_told 77 = .ok (.aload_n 0, 1) := by decide +kernel
theorem dX11_told_78 : decode cX11_told 78 = .ok (.getfield 75, 3) := by decide +kernel
theorem dX11_told_81 : decode cX11_told 81 = .ok (.iload_n 1, 1) := by decide +kernel
theorem dX11_told_82 : decode cX11_told 82 = .ok (.iaload, 1) := by decide +kernel
theorem dX11_told_83 : decode cX11_told 83 = .ok (.ireturn, 1) := by decide +kernel
theorem dX11_told_84 : decode cX11_told 84 = .ok (.aload_n 0, 1) := by decide +kernel
theorem dX11_told_85 : decode cX11_told 85 = .ok (.getfield 78, 3) := by decide +kernel
theorem dX11_told_88 : decode cX11_told 88 = .ok (.iload_n 1, 1) := by decide +kernel
theorem dX11_told_89 : decode cX11_told 89 = .ok (.iaload, 1) := by decide +kernel
theorem dX11_told_90 : decode cX11_told 90 = .ok (.ireturn, 1) := by decide +kernel
theorem dX11_told_91 : decode cX11_told 91 = .ok (.aload_n 0, 1) := by decide +kernel
theorem dX11_told_92 : decode cX11_told 92 = .ok (.getfield 87, 3) := by decide +kernel
theorem dX11_told_95 : decode cX11_told 95 = .ok (.iload_n 1, 1) := by decide +kernel
theorem dX11_told_96 : decode cX11_told 96 = .ok (.iaload, 1) := by decide +kernel
theorem dX11_told_97 : decode cX11_told 97 = .ok (.ireturn, 1) := by decide +kernel
theorem dX11_told_98 : decode cX11_told 98 = .ok (.iconst (-1), 1) := by decide +kernel
theorem dX11_told_99 : decode cX11_told 99 = .ok (.ireturn, 1) := by decide +kernel
theorem dX11_bill_0 : decode cX11_bill 0 = .ok (.aload_n 0, 1) := by decide +kernel
theorem dX11_bill_1 : decode cX11_bill 1 = .ok (.iload_n 1, 1) := by decide +kernel
theorem dX11_bill_2 : decode cX11_bill 2 = .ok (.invokevirtual 172, 3) := by decide +kernel
theorem dX11_bill_5 : decode cX11_bill 5 = .ok (.ifCond .eq 13, 3) := by decide +kernel
theorem dX11_bill_8 : decode cX11_bill 8 = .ok (.aload_n 0, 1) := by decide +kernel
theorem dX11_bill_9 : decode cX11_bill 9 = .ok (.getfield 54, 3) := by decide +kernel
theorem dX11_bill_12 : decode cX11_bill 12 = .ok (.iload_n 1, 1) := by decide +kernel
theorem dX11_bill_13 : decode cX11_bill 13 = .ok (.iaload, 1) := by decide +kernel
theorem dX11_bill_14 : decode cX11_bill 14 = .ok (.iconst (-1), 1) := by decide +kernel
theorem dX11_bill_15 : decode cX11_bill 15 = .ok (.if_icmp .ne 7, 3) := by decide +kernel
theorem dX11_bill_18 : decode cX11_bill 18 = .ok (.ldc2_w 240, 3) := by decide +kernel
theorem dX11_bill_21 : decode cX11_bill 21 = .ok (.lreturn, 1) := by decide +kernel
theorem dX11_bill_22 : decode cX11_bill 22 = .ok (.aload_n 0, 1) := by decide +kernel
theorem dX11_bill_23 : decode cX11_bill 23 = .ok (.getfield 54, 3) := by decide +kernel
theorem dX11_bill_26 : decode cX11_bill 26 = .ok (.iload_n 1, 1) := by decide +kernel
theorem dX11_bill_27 : decode cX11_bill 27 = .ok (.iaload, 1) := by decide +kernel
theorem dX11_bill_28 : decode cX11_bill 28 = .ok (.istore_n 2, 1) := by decide +kernel
theorem dX11_bill_29 : decode cX11_bill 29 = .ok (.aload_n 0, 1) := by decide +kernel
theorem dX11_bill_30 : decode cX11_bill 30 = .ok (.iload_n 2, 1) := by decide +kernel
theorem dX11_bill_31 : decode cX11_bill 31 = .ok (.invokevirtual 227, 3) := by decide +kernel
theorem dX11_bill_34 : decode cX11_bill 34 = .ok (.aload_n 0, 1) := by decide +kernel
theorem dX11_bill_35 : decode cX11_bill 35 = .ok (.getfield 36, 3) := by decide +kernel
theorem dX11_bill_38 : decode cX11_bill 38 = .ok (.iload_n 2, 1) := by decide +kernel
theorem dX11_bill_39 : decode cX11_bill 39 = .ok (.iaload, 1) := by decide +kernel
theorem dX11_bill_40 : decode cX11_bill 40 = .ok (.i2l, 1) := by decide +kernel
theorem dX11_bill_41 : decode cX11_bill 41 = .ok (.aload_n 0, 1) := by decide +kernel
theorem dX11_bill_42 : decode cX11_bill 42 = .ok (.aload_n 0, 1) := by decide +kernel
theorem dX11_bill_43 : decode cX11_bill 43 = .ok (.getfield 39, 3) := by decide +kernel
theorem dX11_bill_46 : decode cX11_bill 46 = .ok (.iload_n 1, 1) := by decide +kernel
theorem dX11_bill_47 : decode cX11_bill 47 = .ok (.iaload, 1) := by decide +kernel
theorem dX11_bill_48 : decode cX11_bill 48 = .ok (.aload_n 0, 1) := by decide +kernel
theorem dX11_bill_49 : decode cX11_bill 49 = .ok (.getfield 42, 3) := by decide +kernel
theorem dX11_bill_52 : decode cX11_bill 52 = .ok (.iload_n 1, 1) := by decide +kernel
theorem dX11_bill_53 : decode cX11_bill 53 = .ok (.iaload, 1) := by decide +kernel
theorem dX11_bill_54 : decode cX11_bill 54 = .ok (.invokevirtual 165, 3) := by decide +kernel
theorem dX11_bill_57 : decode cX11_bill 57 = .ok (.i2l, 1) := by decide +kernel
theorem dX11_bill_58 : decode cX11_bill 58 = .ok (.lmul, 1) := by decide +kernel
theorem dX11_bill_59 : decode cX11_bill 59 = .ok (.lstore_n 3, 1) := by decide +kernel
theorem dX11_bill_60 : decode cX11_bill 60 = .ok (.iconst 0, 1) := by decide +kernel
theorem dX11_bill_61 : decode cX11_bill 61 = .ok (.istore 5, 2) := by decide +kernel
theorem dX11_bill_63 : decode cX11_bill 63 = .ok (.iload 5, 2) := by decide +kernel
theorem dX11_bill_65 : decode cX11_bill 65 = .ok (.aload_n 0, 1) := by decide +kernel
theorem dX11_bill_66 : decode cX11_bill 66 = .ok (.getfield 191, 3) := by decide +kernel
theorem dX11_bill_69 : decode cX11_bill 69 = .ok (.if_icmp .ge 145, 3) := by decide +kernel
theorem dX11_bill_72 : decode cX11_bill 72 = .ok (.aload_n 0, 1) := by decide +kernel
theorem dX11_bill_73 : decode cX11_bill 73 = .ok (.getfield 93, 3) := by decide +kernel
theorem dX11_bill_76 : decode cX11_bill 76 = .ok (.iload 5, 2) := by decide +kernel
theorem dX11_bill_78 : decode cX11_bill 78 = .ok (.iaload, 1) := by decide +kernel
theorem dX11_bill_79 : decode cX11_bill 79 = .ok (.iconst (-1), 1) := by decide +kernel
theorem dX11_bill_80 : decode cX11_bill 80 = .ok (.if_icmp .ne 128, 3) := by decide +kernel
theorem dX11_bill_83 : decode cX11_bill 83 = .ok (.aload_n 0, 1) := by decide +kernel
theorem dX11_bill_84 : decode cX11_bill 84 = .ok (.getfield 108, 3) := by decide +kernel
theorem dX11_bill_87 : decode cX11_bill 87 = .ok (.iload 5, 2) := by decide +kernel
theorem dX11_bill_89 : decode cX11_bill 89 = .ok (.iaload, 1) := by decide +kernel
theorem dX11_bill_90 : decode cX11_bill 90 = .ok (.iload_n 1, 1) := by decide +kernel
theorem dX11_bill_91 : decode cX11_bill 91 = .ok (.if_icmp .eq 6, 3) := by decide +kernel
theorem dX11_bill_94 : decode cX11_bill 94 = .ok (.goto 114, 3) := by decide +kernel
theorem dX11_bill_97 : decode cX11_bill 97 = .ok (.aload_n 0, 1) := by decide +kernel
theorem dX11_bill_98 : decode cX11_bill 98 = .ok (.aload_n 0, 1) := by decide +kernel
theorem dX11_bill_99 : decode cX11_bill 99 = .ok (.getfield 96, 3) := by decide +kernel
theorem dX11_bill_102 : decode cX11_bill 102 = .ok (.iload 5, 2) := by decide +kernel
theorem dX11_bill_104 : decode cX11_bill 104 = .ok (.iaload, 1) := by decide +kernel
theorem dX11_bill_105 : decode cX11_bill 105 = .ok (.aload_n 0, 1) := by decide +kernel
theorem dX11_bill_106 : decode cX11_bill 106 = .ok (.getfield 99, 3) := by decide +kernel
theorem dX11_bill_109 : decode cX11_bill 109 = .ok (.iload 5, 2) := by decide +kernel
theorem dX11_bill_111 : decode cX11_bill 111 = .ok (.iaload, 1) := by decide +kernel
theorem dX11_bill_112 : decode cX11_bill 112 = .ok (.invokevirtual 165, 3) := by decide +kernel
theorem dX11_bill_115 : decode cX11_bill 115 = .ok (.istore 6, 2) := by decide +kernel
theorem dX11_bill_117 : decode cX11_bill 117 = .ok (.iload 6, 2) := by decide +kernel
theorem dX11_bill_119 : decode cX11_bill 119 = .ok (.ifCond .ne 7, 3) := by decide +kernel
theorem dX11_bill_122 : decode cX11_bill 122 = .ok (.ldc2_w 240, 3) := by decide +kernel
theorem dX11_bill_125 : decode cX11_bill 125 = .ok (.lreturn, 1) := by decide +kernel
theorem dX11_bill_126 : decode cX11_bill 126 = .ok (.lload_n 3, 1) := by decide +kernel
theorem dX11_bill_127 : decode cX11_bill 127 = .ok (.aload_n 0, 1) := by decide +kernel
theorem dX11_bill_128 : decode cX11_bill 128 = .ok (.getfield 36, 3) := by decide +kernel
theorem dX11_bill_131 : decode cX11_bill 131 = .ok (.iload_n 2, 1) := by decide +kernel
theorem dX11_bill_132 : decode cX11_bill 132 = .ok (.iaload, 1) := by decide +kernel
theorem dX11_bill_133 : decode cX11_bill 133 = .ok (.i2l, 1) := by decide +kernel
theorem dX11_bill_134 : decode cX11_bill 134 = .ok (.iload 6, 2) := by decide +kernel
theorem dX11_bill_136 : decode cX11_bill 136 = .ok (.i2l, 1) := by decide +kernel
theorem dX11_bill_137 : decode cX11_bill 137 = .ok (.lmul, 1) := by decide +kernel
theorem dX11_bill_138 : decode cX11_bill 138 = .ok (.ladd, 1) := by decide +kernel
theorem dX11_bill_139 : decode cX11_bill 139 = .ok (.lstore_n 3, 1) := by decide +kernel
theorem dX11_bill_140 : decode cX11_bill 140 = .ok (.iconst 0, 1) := by decide +kernel
theorem dX11_bill_141 : decode cX11_bill 141 = .ok (.istore 7, 2) := by decide +kernel
theorem dX11_bill_143 : decode cX11_bill 143 = .ok (.iload 7, 2) := by decide +kernel
theorem dX11_bill_145 : decode cX11_bill 145 = .ok (.aload_n 0, 1) := by decide +kernel
theorem dX11_bill_146 : decode cX11_bill 146 = .ok (.getfield 185, 3) := by decide +kernel
theorem dX11_bill_149 : decode cX11_bill 149 = .ok (.if_icmp .ge 59, 3) := by decide +kernel
theorem dX11_bill_152 : decode cX11_bill 152 = .ok (.lload_n 3, 1) := by decide +kernel
theorem dX11_bill_153 : decode cX11_bill 153 = .ok (.aload_n 0, 1) := by decide +kernel
theorem dX11_bill_154 : decode cX11_bill 154 = .ok (.getfield 66, 3) := by decide +kernel
theorem dX11_bill_157 : decode cX11_bill 157 = .ok (.iload 7, 2) := by decide +kernel
theorem dX11_bill_159 : decode cX11_bill 159 = .ok (.iaload, 1) := by decide +kernel
theorem dX11_bill_160 : decode cX11_bill 160 = .ok (.iconst 1, 1) := by decide +kernel
theorem dX11_bill_161 : decode cX11_bill 161 = .ok (.if_icmp .ne 38, 3) := by decide +kernel
theorem dX11_bill_164 : decode cX11_bill 164 = .ok (.aload_n 0, 1) := by decide +kernel
theorem dX11_bill_165 : decode cX11_bill 165 = .ok (.getfield 78, 3) := by decide +kernel
theorem dX11_bill_168 : decode cX11_bill 168 = .ok (.iload 7, 2) := by decide +kernel
theorem dX11_bill_170 : decode cX11_bill 170 = .ok (.iaload, 1) := by decide +kernel
theorem dX11_bill_171 : decode cX11_bill 171 = .ok (.iload_n 2, 1) := by decide +kernel
theorem dX11_bill_172 : decode cX11_bill 172 = .ok (.if_icmp .ne 27, 3) := by decide +kernel
theorem dX11_bill_175 : decode cX11_bill 175 = .ok (.aload_n 0, 1) := by decide +kernel
theorem dX11_bill_176 : decode cX11_bill 176 = .ok (.iload 7, 2) := by decide +kernel
theorem dX11_bill_178 : decode cX11_bill 178 = .ok (.iload 5, 2) := by decide +kernel
theorem dX11_bill_180 : decode cX11_bill 180 = .ok (.invokevirtual 230, 3) := by decide +kernel
theorem dX11_bill_183 : decode cX11_bill 183 = .ok (.ifCond .eq 16, 3) := by decide +kernel
theorem dX11_bill_186 : decode cX11_bill 186 = .ok (.aload_n 0, 1) := by decide +kernel
theorem dX11_bill_187 : decode cX11_bill 187 = .ok (.getfield 69, 3) := by decide +kernel
theorem dX11_bill_190 : decode cX11_bill 190 = .ok (.iload 7, 2) := by decide +kernel
theorem dX11_bill_192 : decode cX11_bill 192 = .ok (.iaload, 1) := by decide +kernel
theorem dX11_bill_193 : decode cX11_bill 193 = .ok (.iconst 2, 1) := by decide +kernel
theorem dX11_bill_194 : decode cX11_bill 194 = .ok (.idiv, 1) := by decide +kernel
theorem dX11_bill_195 : decode cX11_bill 195 = .ok (.i2l, 1) := by decide +kernel
theorem dX11_bill_196 : decode cX11_bill 196 = .ok (.goto 4, 3) := by decide +kernel
theorem dX11_bill_199 : decode cX11_bill 199 = .ok (.lconst 0, 1) := by decide +kernel
theorem dX11_bill_200 : decode cX11_bill 200 = .ok (.lsub, 1) := by decide +kernel
theorem dX11_bill_201 : decode cX11_bill 201 = .ok (.lstore_n 3, 1) := by decide +kernel
theorem dX11_bill_202 : decode cX11_bill 202 = .ok (.iinc 7 1, 3) := by decide +kernel
theorem dX11_bill_205 : decode cX11_bill 205 = .ok (.goto (-62), 3) := by decide +kernel
theorem dX11_bill_208 : decode cX11_bill 208 = .ok (.iinc 5 1, 3) := by decide +kernel
theorem dX11_bill_211 : decode cX11_bill 211 = .ok (.goto (-148), 3) := by decide +kernel
theorem dX11_bill_214 : decode cX11_bill 214 = .ok (.lload_n 3, 1) := by decide +kernel
theorem dX11_bill_215 : decode cX11_bill 215 = .ok (.lconst 0, 1) := by decide +kernel
theorem dX11_bill_216 : decode cX11_bill 216 = .ok (.lcmp, 1) := by decide +kernel
theorem dX11_bill_217 : decode cX11_bill 217 = .ok (.ifCond .ge 7, 3) := by decide +kernel
theorem dX11_bill_220 : decode cX11_bill 220 = .ok (.lconst 0, 1) := by decide +kernel
theorem dX11_bill_221 : decode cX11_bill 221 = .ok (.goto 4, 3) := by decide +kernel
theorem dX11_bill_224 : decode cX11_bill 224 = .ok (.lload_n 3, 1) := by decide +kernel
theorem dX11_bill_225 : decode cX11_bill 225 = .ok (.lreturn, 1) := by decide +kernel
theorem dX11_look_0 : decode cX11_look 0 = .ok (.aload_n 0, 1) := by decide +kernel
theorem dX11_look_1 : decode cX11_look 1 = .ok (.iload_n 1, 1) := by decide +kernel
theorem dX11_look_2 : decode cX11_look 2 = .ok (.invokevirtual 172, 3) := by decide +kernel
theorem dX11_look_5 : decode cX11_look 5 = .ok (.ifCond .ne 5, 3) := by decide +kernel
theorem dX11_look_8 : decode cX11_look 8 = .ok (.iconst (-1), 1) := by decide +kernel
theorem dX11_look_9 : decode cX11_look 9 = .ok (.ireturn, 1) := by decide +kernel
theorem dX11_look_10 : decode cX11_look 10 = .ok (.iload_n 2, 1) := by decide +kernel
theorem dX11_look_11 : decode cX11_look 11 = .ok (.tableswitch 97 0 5 #[37, 44, 51, 58, 65, 80], 37) := by decide +kernel
theorem dX11_look_48 : decode cX11_look 48 = .ok (.aload_n 0, 1) := by decide +kernel
theorem dX11_look_49 : decode cX11_look 49 = .ok (.getfield 39, 3) := by decide +kernel
theorem dX11_look_52 : decode cX11_look 52 = .ok (.iload_n 1, 1) := by decide +kernel
theorem dX11_look_53 : decode cX11_look 53 = .ok (.iaload, 1) := by decide +kernel
theorem dX11_look_54 : decode cX11_look 54 = .ok (.ireturn, 1) := by decide +kernel
theorem dX11_look_55 : decode cX11_look 55 = .ok (.aload_n 0, 1) := by decide +kernel
theorem dX11_look_56 : decode cX11_look 56 = .ok (.getfield 42, 3) := by decide +kernel
theorem dX11_look_59 : decode cX11_look 59 = .ok (.iload_n 1, 1) := by decide +kernel
theorem dX11_look_60 : decode cX11_look 60 = .ok (.iaload, 1) := by decide +kernel
theorem dX11_look_61 : decode cX11_look 61 = .ok (.ireturn, 1) := by decide +kernel
theorem dX11_look_62 : decode cX11_look 62 = .ok (.aload_n 0, 1) := by decide +kernel
theorem dX11_look_63 : decode cX11_look 63 = .ok (.getfield 45, 3) := by decide +kernel
theorem dX11_look_66 : decode cX11_look 66 = .ok (.iload_n 1, 1) := by decide +kernel
theorem dX11_look_67 : decode cX11_look 67 = .ok (.iaload, 1) := by decide +kernel
theorem dX11_look_68 : decode cX11_look 68 = .ok (.ireturn, 1) := by decide +kernel
theorem dX11_look_69 : decode cX11_look 69 = .ok (.aload_n 0, 1) := by decide +kernel
theorem dX11_look_70 : decode cX11_look 70 = .ok (.getfield 48, 3) := by decide +kernel
theorem dX11_look_73 : decode cX11_look 73 = .ok (.iload_n 1, 1) := by decide +kernel
theorem dX11_look_74 : decode cX11_look 74 = .ok (.iaload, 1) := by decide +kernel
theorem dX11_look_75 : decode cX11_look 75 = .ok (.ireturn, 1) := by decide +kernel
theorem dX11_look_76 : decode cX11_look 76 = .ok (.aload_n 0, 1) := by decide +kernel
theorem dX11_look_77 : decode cX11_look 77 = .ok (.getfield 51, 3) := by decide +kernel
theorem dX11_look_80 : decode cX11_look 80 = .ok (.iload_n 1, 1) := by decide +kernel
theorem dX11_look_81 : decode cX11_look 81 = .ok (.baload, 1) := by decide +kernel
theorem dX11_look_82 : decode cX11_look 82 = .ok (.ifCond .eq 7, 3) := by decide +kernel
theorem dX11_look_85 : decode cX11_look 85 = .ok (.iconst 1, 1) := by decide +kernel
theorem dX11_look_86 : decode cX11_look 86 = .ok (.goto 4, 3) := by decide +kernel
theorem dX11_look_89 : decode cX11_look 89 = .ok (.iconst 0, 1) := by decide +kernel
theorem dX11_look_90 : decode cX11_look 90 = .ok (.ireturn, 1) := by decide +kernel
theorem dX11_look_91 : decode cX11_look 91 = .ok (.aload_n 0, 1) := by decide +kernel
theorem dX11_look_92 : decode cX11_look 92 = .ok (.aload_n 0, 1) := by decide +kernel
theorem dX11_look_93 : decode cX11_look 93 = .ok (.getfield 39, 3) := by decide +kernel
theorem dX11_look_96 : decode cX11_look 96 = .ok (.iload_n 1, 1) := by decide +kernel
theorem dX11_look_97 : decode cX11_look 97 = .ok (.iaload, 1) := by decide +kernel
theorem dX11_look_98 : decode cX11_look 98 = .ok (.aload_n 0, 1) := by decide +kernel
theorem dX11_look_99 : decode cX11_look 99 = .ok (.getfield 42, 3) := by decide +kernel
theorem dX11_look_102 : decode cX11_look 102 = .ok (.iload_n 1, 1) := by decide +kernel
theorem dX11_look_103 : decode cX11_look 103 = .ok (.iaload, 1) := by decide +kernel
theorem dX11_look_104 : decode cX11_look 104 = .ok (.invokevirtual 165, 3) := by decide +kernel
theorem dX11_look_107 : decode cX11_look 107 = .ok (.ireturn, 1) := by decide +kernel
theorem dX11_look_108 : decode cX11_look 108 = .ok (.iconst (-1), 1) := by decide +kernel
theorem dX11_look_109 : decode cX11_look 109 = .ok (.ireturn, 1) := by decide +kernel
theorem dX11_count_0 : decode cX11_count 0 = .ok (.iconst 0, 1) := by decide +kernel
theorem dX11_count_1 : decode cX11_count 1 = .ok (.istore_n 2, 1) := by decide +kernel
theorem dX11_count_2 : decode cX11_count 2 = .ok (.iload_n 1, 1) := by decide +kernel
theorem dX11_count_3 : decode cX11_count 3 = .ok (.tableswitch 119 0 8 #[49, 54, 59, 64, 69, 99, 104, 109, 114], 49) := by decide +kernel
theorem dX11_count_52 : decode cX11_count 52 = .ok (.aload_n 0, 1) := by decide +kernel
theorem dX11_count_53 : decode cX11_count 53 = .ok (.getfield 162, 3) := by decide +kernel
theorem dX11_count_56 : decode cX11_count 56 = .ok (.ireturn, 1) := by decide +kernel
theorem dX11_count_57 : decode cX11_count 57 = .ok (.aload_n 0, 1) := by decide +kernel
theorem dX11_count_58 : decode cX11_count 58 = .ok (.getfield 159, 3) := by decide +kernel
theorem dX11_count_61 : decode cX11_count 61 = .ok (.ireturn, 1) := by decide +kernel
theorem dX11_count_62 : decode cX11_count 62 = .ok (.aload_n 0, 1) := by decide +kernel
theorem dX11_count_63 : decode cX11_count 63 = .ok (.invokevirtual 168, 3) := by decide +kernel
theorem dX11_count_66 : decode cX11_count 66 = .ok (.ireturn, 1) := by decide +kernel
theorem dX11_count_67 : decode cX11_count 67 = .ok (.aload_n 0, 1) := by decide +kernel
theorem dX11_count_68 : decode cX11_count 68 = .ok (.invokevirtual 224, 3) := by decide +kernel
theorem dX11_count_71 : decode cX11_count 71 = .ok (.ireturn, 1) := by decide +kernel
theorem dX11_count_72 : decode cX11_count 72 = .ok (.iconst 0, 1) := by decide +kernel
theorem dX11_count_73 : decode cX11_count 73 = .ok (.istore_n 3, 1) := by decide +kernel
theorem dX11_count_74 : decode cX11_count 74 = .ok (.iload_n 3, 1) := by decide +kernel
theorem dX11_count_75 : decode cX11_count 75 = .ok (.aload_n 0, 1) := by decide +kernel
theorem dX11_count_76 : decode cX11_count 76 = .ok (.getfield 162, 3) := by decide +kernel
theorem dX11_count_79 : decode cX11_count 79 = .ok (.if_icmp .ge 21, 3) := by decide +kernel
theorem dX11_count_82 : decode cX11_count 82 = .ok (.aload_n 0, 1) := by decide +kernel
theorem dX11_count_83 : decode cX11_count 83 = .ok (.iload_n 3, 1) := by decide +kernel
theorem dX11_count_84 : decode cX11_count 84 = .ok (.invokevirtual 227, 3) := by decide +kernel
theorem dX11_count_87 : decode cX11_count 87 = .ok (.iload_n 2, 1) := by decide +kernel
theorem dX11_count_88 : decode cX11_count 88 = .ok (.aload_n 0, 1) := by decide +kernel
theorem dX11_count_89 : decode cX11_count 89 = .ok (.invokevirtual 211, 3) := by decide +kernel
theorem dX11_count_92 : decode cX11_count 92 = .ok (.iadd, 1) := by decide +kernel
theorem dX11_count_93 : decode cX11_count 93 = .ok (.istore_n 2, 1) := by decide +kernel
theorem dX11_count_94 : decode cX11_count 94 = .ok (.iinc 3 1, 3) := by decide +kernel
theorem dX11_count_97 : decode cX11_count 97 = .ok (.goto (-23), 3) := by decide +kernel
theorem dX11_count_100 : decode cX11_count 100 = .ok (.iload_n 2, 1) := by decide +kernel
theorem dX11_count_101 : decode cX11_count 101 = .ok (.ireturn, 1) := by decide +kernel
theorem dX11_count_102 : decode cX11_count 102 = .ok (.aload_n 0, 1) := by decide +kernel
theorem dX11_count_103 : decode cX11_count 103 = .ok (.getfield 179, 3) := by decide +kernel
theorem dX11_count_106 : decode cX11_count 106 = .ok (.ireturn, 1) := by decide +kernel
theorem dX11_count_107 : decode cX11_count 107 = .ok (.aload_n 0, 1) := by decide +kernel
theorem dX11_count_108 : decode cX11_count 108 = .ok (.getfield 185, 3) := by decide +kernel
theorem dX11_count_111 : decode cX11_count 111 = .ok (.ireturn, 1) := by decide +kernel
theorem dX11_count_112 : decode cX11_count 112 = .ok (.aload_n 0, 1) := by decide +kernel
theorem dX11_count_113 : decode cX11_count 113 = .ok (.getfield 182, 3) := by decide +kernel
theorem dX11_count_116 : decode cX11_count 116 = .ok (.ireturn, 1) := by decide +kernel
theorem dX11_count_117 : decode cX11_count 117 = .ok (.aload_n 0, 1) := by decide +kernel
theorem dX11_count_118 : decode cX11_count 118 = .ok (.getfield 123, 3) := by decide +kernel
theorem dX11_count_121 : decode cX11_count 121 = .ok (.ireturn, 1) := by decide +kernel
theorem dX11_count_122 : decode cX11_count 122 = .ok (.iconst (-1), 1) := by decide +kernel
theorem dX11_count_123 : decode cX11_count 123 = .ok (.ireturn, 1) := by decide +kernel
theorem dL_law_0 : decode cL_law 0 = .ok (.new 7, 3) := by decide +kernel
theorem dL_law_3 : decode cL_law 3 = .ok (.dup, 1) := by decide +kernel
theorem dL_law_4 : decode cL_law 4 = .ok (.invokespecial 9, 3) := by decide +kernel
theorem dL_law_7 : decode cL_law 7 = .ok (.astore_n 1, 1) := by decide +kernel
theorem dL_law_8 : decode cL_law 8 = .ok (.new 10, 3) := by decide +kernel
theorem dL_law_11 : decode cL_law 11 = .ok (.dup, 1) := by decide +kernel
theorem dL_law_12 : decode cL_law 12 = .ok (.invokespecial 12, 3) := by decide +kernel
theorem dL_law_15 : decode cL_law 15 = .ok (.astore_n 2, 1) := by decide +kernel
theorem dL_law_16 : decode cL_law 16 = .ok (.iconst 0, 1) := by decide +kernel
theorem dL_law_17 : decode cL_law 17 = .ok (.istore_n 3, 1) := by decide +kernel
theorem dL_law_18 : decode cL_law 18 = .ok (.iload_n 3, 1) := by decide +kernel
theorem dL_law_19 : decode cL_law 19 = .ok (.aload_n 0, 1) := by decide +kernel
theorem dL_law_20 : decode cL_law 20 = .ok (.arraylength, 1) := by decide +kernel
theorem dL_law_21 : decode cL_law 21 = .ok (.bipush 6, 2) := by decide +kernel
theorem dL_law_23 : decode cL_law 23 = .ok (.isub, 1) := by decide +kernel
theorem dL_law_24 : decode cL_law 24 = .ok (.if_icmp .gt 781, 3) := by decide +kernel
theorem dL_law_27 : decode cL_law 27 = .ok (.aload_n 0, 1) := by decide +kernel
theorem dL_law_28 : decode cL_law 28 = .ok (.iload_n 3, 1) := by decide +kernel
theorem dL_law_29 : decode cL_law 29 = .ok (.iaload, 1) := by decide +kernel
theorem dL_law_30 : decode cL_law 30 = .ok (.bipush 31, 2) := by decide +kernel
theorem dL_law_32 : decode cL_law 32 = .ok (.iand, 1) := by decide +kernel
theorem dL_law_33 : decode cL_law 33 = .ok (.tableswitch 766 0 19 #[95, 158, 191, 224, 267, 320, 373, 396, 439, 462, 475, 488, 501, 524, 567, 620, 653, 686, 710, 743], 95) := by decide +kernel
theorem dL_law_128 : decode cL_law 128 = .ok (.aload_n 1, 1) := by decide +kernel
theorem dL_law_129 : decode cL_law 129 = .ok (.aload_n 0, 1) := by decide +kernel
theorem dL_law_130 : decode cL_law 130 = .ok (.iload_n 3, 1) := by decide +kernel
theorem dL_law_131 : decode cL_law 131 = .ok (.iconst 1, 1) := by decide +kernel
theorem dL_law_132 : decode cL_law 132 = .ok (.iadd, 1) := by decide +kernel
theorem dL_law_133 : decode cL_law 133 = .ok (.iaload, 1) := by decide +kernel
theorem dL_law_134 : decode cL_law 134 = .ok (.aload_n 0, 1) := by decide +kernel
theorem dL_law_135 : decode cL_law 135 = .ok (.iload_n 3, 1) := by decide +kernel
theorem dL_law_136 : decode cL_law 136 = .ok (.iconst 2, 1) := by decide +kernel
theorem dL_law_137 : decode cL_law 137 = .ok (.iadd, 1) := by decide +kernel
theorem dL_law_138 : decode cL_law 138 = .ok (.iaload, 1) := by decide +kernel
theorem dL_law_139 : decode cL_law 139 = .ok (.aload_n 0, 1) := by decide +kernel
theorem dL_law_140 : decode cL_law 140 = .ok (.iload_n 3, 1) := by decide +kernel
theorem dL_law_141 : decode cL_law 141 = .ok (.iconst 3, 1) := by decide +kernel
theorem dL_law_142 : decode cL_law 142 = .ok (.iadd, 1) := by decide +kernel
theorem dL_law_143 : decode cL_law 143 = .ok (.iaload, 1) := by decide +kernel
theorem dL_law_144 : decode cL_law 144 = .ok (.aload_n 0, 1) := by decide +kernel
theorem dL_law_145 : decode cL_law 145 = .ok (.iload_n 3, 1) := by decide +kernel
theorem dL_law_146 : decode cL_law 146 = .ok (.iconst 4, 1) := by decide +kernel
theorem dL_law_147 : decode cL_law 147 = .ok (.iadd, 1) := by decide +kernel
theorem dL_law_148 : decode cL_law 148 = .ok (.iaload, 1) := by decide +kernel
theorem dL_law_149 : decode cL_law 149 = .ok (.aload_n 0, 1) := by decide +kernel
theorem dL_law_150 : decode cL_law 150 = .ok (.iload_n 3, 1) := by decide +kernel
theorem dL_law_151 : decode cL_law 151 = .ok (.iconst 5, 1) := by decide +kernel
theorem dL_law_152 : decode cL_law 152 = .ok (.iadd, 1) := by decide +kernel
theorem dL_law_153 : decode cL_law 153 = .ok (.iaload, 1) := by decide +kernel
theorem dL_law_154 : decode cL_law 154 = .ok (.invokevirtual 13, 3) := by decide +kernel
theorem dL_law_157 : decode cL_law 157 = .ok (.aload_n 2, 1) := by decide +kernel
theorem dL_law_158 : decode cL_law 158 = .ok (.aload_n 0, 1) := by decide +kernel
theorem dL_law_159 : decode cL_law 159 = .ok (.iload_n 3, 1) := by decide +kernel
theorem dL_law_160 : decode cL_law 160 = .ok (.iconst 1, 1) := by decide +kernel
theorem dL_law_161 : decode cL_law 161 = .ok (.iadd, 1) := by decide +kernel
theorem dL_law_162 : decode cL_law 162 = .ok (.iaload, 1) := by decide +kernel
theorem dL_law_163 : decode cL_law 163 = .ok (.aload_n 0, 1) := by decide +kernel
theorem dL_law_164 : decode cL_law 164 = .ok (.iload_n 3, 1) := by decide +kernel
theorem dL_law_165 : decode cL_law 165 = .ok (.iconst 2, 1) := by decide +kernel
theorem dL_law_166 : decode cL_law 166 = .ok (.iadd, 1) := by decide +kernel
theorem dL_law_167 : decode cL_law 167 = .ok (.iaload, 1) := by decide +kernel
theorem dL_law_168 : decode cL_law 168 = .ok (.aload_n 0, 1) := by decide +kernel
theorem dL_law_169 : decode cL_law 169 = .ok (.iload_n 3, 1) := by decide +kernel
theorem dL_law_170 : decode cL_law 170 = .ok (.iconst 3, 1) := by decide +kernel
theorem dL_law_171 : decode cL_law 171 = .ok (.iadd, 1) := by decide +kernel
theorem dL_law_172 : decode cL_law 172 = .ok (.iaload, 1) := by decide +kernel
theorem dL_law_173 : decode cL_law 173 = .ok (.aload_n 0, 1) := by decide +kernel
theorem dL_law_174 : decode cL_law 174 = .ok (.iload_n 3, 1) := by decide +kernel
theorem dL_law_175 : decode cL_law 175 = .ok (.iconst 4, 1) := by decide +kernel
theorem dL_law_176 : decode cL_law 176 = .ok (.iadd, 1) := by decide +kernel
theorem dL_law_177 : decode cL_law 177 = .ok (.iaload, 1) := by decide +kernel
theorem dL_law_178 : decode cL_law 178 = .ok (.aload_n 0, 1) := by decide +kernel
theorem dL_law_179 : decode cL_law 179 = .ok (.iload_n 3, 1) := by decide +kernel
theorem dL_law_180 : decode cL_law 180 = .ok (.iconst 5, 1) := by decide +kernel
theorem dL_law_181 : decode cL_law 181 = .ok (.iadd, 1) := by decide +kernel
theorem dL_law_182 : decode cL_law 182 = .ok (.iaload, 1) := by decide +kernel
theorem dL_law_183 : decode cL_law 183 = .ok (.invokevirtual 17, 3) := by decide +kernel
theorem dL_law_186 : decode cL_law 186 = .ok (.if_icmp .eq 613, 3) := by decide +kernel
theorem dL_law_189 : decode cL_law 189 = .ok (.iconst 0, 1) := by decide +kernel
theorem dL_law_190 : decode cL_law 190 = .ok (.ireturn, 1) := by decide +kernel
theorem dL_law_191 : decode cL_law 191 = .ok (.aload_n 1, 1) := by decide +kernel
theorem dL_law_192 : decode cL_law 192 = .ok (.aload_n 0, 1) := by decide +kernel
theorem dL_law_193 : decode cL_law 193 = .ok (.iload_n 3, 1) := by decide +kernel
theorem dL_law_194 : decode cL_law 194 = .ok (.iconst 1, 1) := by decide +kernel
theorem dL_law_195 : decode cL_law 195 = .ok (.iadd, 1) := by decide +kernel
theorem dL_law_196 : decode cL_law 196 = .ok (.iaload, 1) := by decide +kernel
theorem dL_law_197 : decode cL_law 197 = .ok (.aload_n 0, 1) := by decide +kernel
theorem dL_law_198 : decode cL_law 198 = .ok (.iload_n 3, 1) := by decide +kernel
theorem dL_law_199 : decode cL_law 199 = .ok (.iconst 2, 1) := by decide +kernel
theorem dL_law_200 : decode cL_law 200 = .ok (.iadd, 1) := by decide +kernel
theorem dL_law_201 : decode cL_law 201 = .ok (.iaload, 1) := by decide +kernel
theorem dL_law_202 : decode cL_law 202 = .ok (.invokevirtual 18, 3) := by decide +kernel
theorem dL_law_205 : decode cL_law 205 = .ok (.aload_n 2, 1) := by decide +kernel
theorem dL_law_206 : decode cL_law 206 = .ok (.aload_n 0, 1) := by decide +kernel
theorem dL_law_207 : decode cL_law 207 = .ok (.iload_n 3, 1) := by decide +kernel
theorem dL_law_208 : decode cL_law 208 = .ok (.iconst 1, 1) := by decide +kernel
theorem dL_law_209 : decode cL_law 209 = .ok (.iadd, 1) := by decide +kernel
theorem dL_law_210 : decode cL_law 210 = .ok (.iaload, 1) := by decide +kernel
theorem dL_law_211 : decode cL_law 211 = .ok (.aload_n 0, 1) := by decide +kernel
theorem dL_law_212 : decode cL_law 212 = .ok (.iload_n 3, 1) := by decide +kernel
theorem dL_law_213 : decode cL_law 213 = .ok (.iconst 2, 1) := by decide +kernel
theorem dL_law_214 : decode cL_law 214 = .ok (.iadd, 1) := by decide +kernel
theorem dL_law_215 : decode cL_law 215 = .ok (.iaload, 1) := by decide +kernel
theorem dL_law_216 : decode cL_law 216 = .ok (.invokevirtual 22, 3) := by decide +kernel
theorem dL_law_219 : decode cL_law 219 = .ok (.if_icmp .eq 580, 3) := by decide +kernel
theorem dL_law_222 : decode cL_law 222 = .ok (.iconst 0, 1) := by decide +kernel
theorem dL_law_223 : decode cL_law 223 = .ok (.ireturn, 1) := by decide +kernel
theorem dL_law_224 : decode cL_law 224 = .ok (.aload_n 1, 1) := by decide +kernel
theorem dL_law_225 : decode cL_law 225 = .ok (.aload_n 0, 1) := by decide +kernel
theorem dL_law_226 : decode cL_law 226 = .ok (.iload_n 3, 1) := by decide +kernel
theorem dL_law_227 : decode cL_law 227 = .ok (.iconst 1, 1) := by decide +kernel
theorem dL_law_228 : decode cL_law 228 = .ok (.iadd, 1) := by decide +kernel
theorem dL_law_229 : decode cL_law 229 = .ok (.iaload, 1) := by decide +kernel
theorem dL_law_230 : decode cL_law 230 = .ok (.aload_n 0, 1) := by decide +kernel
theorem dL_law_231 : decode cL_law 231 = .ok (.iload_n 3, 1) := by decide +kernel
theorem dL_law_232 : decode cL_law 232 = .ok (.iconst 2, 1) := by decide +kernel
theorem dL_law_233 : decode cL_law 233 = .ok (.iadd, 1) := by decide +kernel
theorem dL_law_234 : decode cL_law 234 = .ok (.iaload, 1) := by decide +kernel
theorem dL_law_235 : decode cL_law 235 = .ok (.invokevirtual 23, 3) := by decide +kernel
theorem dL_law_238 : decode cL_law 238 = .ok (.aload_n 2, 1) := by decide +kernel
theorem dL_law_239 : decode cL_law 239 = .ok (.aload_n 0, 1) := by decide +kernel
theorem dL_law_240 : decode cL_law 240 = .ok (.iload_n 3, 1) := by decide +kernel
theorem dL_law_241 : decode cL_law 241 = .ok (.iconst 1, 1) := by decide +kernel
theorem dL_law_242 : decode cL_law 242 = .ok (.iadd, 1) := by decide +kernel
theorem dL_law_243 : decode cL_law 243 = .ok (.iaload, 1) := by decide +kernel
theorem dL_law_244 : decode cL_law 244 = .ok (.aload_n 0, 1) := by decide +kernel
theorem dL_law_245 : decode cL_law 245 = .ok (.iload_n 3, 1) := by decide +kernel
theorem dL_law_246 : decode cL_law 246 = .ok (.iconst 2, 1) := by decide +kernel
theorem dL_law_247 : decode cL_law 247 = .ok (.iadd, 1) := by decide +kernel
theorem dL_law_248 : decode cL_law 248 = .ok (.iaload, 1) := by decide +kernel
theorem dL_law_249 : decode cL_law 249 = .ok (.invokevirtual 26, 3) := by decide +kernel
theorem dL_law_252 : decode cL_law 252 = .ok (.if_icmp .eq 547, 3) := by decide +kernel
theorem dL_law_255 : decode cL_law 255 = .ok (.iconst 0, 1) := by decide +kernel
theorem dL_law_256 : decode cL_law 256 = .ok (.ireturn, 1) := by decide +kernel
theorem dL_law_257 : decode cL_law 257 = .ok (.aload_n 1, 1) := by decide +kernel
theorem dL_law_258 : decode cL_law 258 = .ok (.aload_n 0, 1) := by decide +kernel
theorem dL_law_259 : decode cL_law 259 = .ok (.iload_n 3, 1) := by decide +kernel
theorem dL_law_260 : decode cL_law 260 = .ok (.iconst 1, 1) := by decide +kernel
theorem dL_law_261 : decode cL_law 261 = .ok (.iadd, 1) := by decide +kernel
theorem dL_law_262 : decode cL_law 262 = .ok (.iaload, 1) := by decide +kernel
theorem dL_law_263 : decode cL_law 263 = .ok (.aload_n 0, 1) := by decide +kernel
theorem dL_law_264 : decode cL_law 264 = .ok (.iload_n 3, 1) := by decide +kernel
theorem dL_law_265 : decode cL_law 265 = .ok (.iconst 2, 1) := by decide +kernel
theorem dL_law_266 : decode cL_law 266 = .ok (.iadd, 1) := by decide +kernel
theorem dL_law_267 : decode cL_law 267 = .ok (.iaload, 1) := by decide +kernel
theorem dL_law_268 : decode cL_law 268 = .ok (.aload_n 0, 1) := by decide +kernel
theorem dL_law_269 : decode cL_law 269 = .ok (.iload_n 3, 1) := by decide +kernel
theorem dL_law_270 : decode cL_law 270 = .ok (.iconst 3, 1) := by decide +kernel
theorem dL_law_271 : decode cL_law 271 = .ok (.iadd, 1) := by decide +kernel
theorem dL_law_272 : decode cL_law 272 = .ok (.iaload, 1) := by decide +kernel
theorem dL_law_273 : decode cL_law 273 = .ok (.invokevirtual 27, 3) := by decide +kernel
theorem dL_law_276 : decode cL_law 276 = .ok (.aload_n 2, 1) := by decide +kernel
theorem dL_law_277 : decode cL_law 277 = .ok (.aload_n 0, 1) := by decide +kernel
theorem dL_law_278 : decode cL_law 278 = .ok (.iload_n 3, 1) := by decide +kernel
theorem dL_law_279 : decode cL_law 279 = .ok (.iconst 1, 1) := by decide +kernel
theorem dL_law_280 : decode cL_law 280 = .ok (.iadd, 1) := by decide +kernel
theorem dL_law_281 : decode cL_law 281 = .ok (.iaload, 1) := by decide +kernel
theorem dL_law_282 : decode cL_law 282 = .ok (.aload_n 0, 1) := by decide +kernel
theorem dL_law_283 : decode cL_law 283 = .ok (.iload_n 3, 1) := by decide +kernel
theorem dL_law_284 : decode cL_law 284 = .ok (.iconst 2, 1) := by decide +kernel
theorem dL_law_285 : decode cL_law 285 = .ok (.iadd, 1) := by decide +kernel
theorem dL_law_286 : decode cL_law 286 = .ok (.iaload, 1) := by decide +kernel
theorem dL_law_287 : decode cL_law 287 = .ok (.aload_n 0, 1) := by decide +kernel
theorem dL_law_288 : decode cL_law 288 = .ok (.iload_n 3, 1) := by decide +kernel
theorem dL_law_289 : decode cL_law 289 = .ok (.iconst 3, 1) := by decide +kernel
theorem dL_law_290 : decode cL_law 290 = .ok (.iadd, 1) := by decide +kernel
theorem dL_law_291 : decode cL_law 291 = .ok (.iaload, 1) := by decide +kernel
theorem dL_law_292 : decode cL_law 292 = .ok (.invokevirtual 31, 3) := by decide +kernel
theorem dL_law_295 : decode cL_law 295 = .ok (.if_icmp .eq 504, 3) := by decide +kernel
theorem dL_law_298 : decode cL_law 298 = .ok (.iconst 0, 1) := by decide +kernel
theorem dL_law_299 : decode cL_law 299 = .ok (.ireturn, 1) := by decide +kernel
theorem dL_law_300 : decode cL_law 300 = .ok (.aload_n 1, 1) := by decide +kernel
theorem dL_law_301 : decode cL_law 301 = .ok (.aload_n 0, 1) := by decide +kernel
theorem dL_law_302 : decode cL_law 302 = .ok (.iload_n 3, 1) := by decide +kernel
theorem dL_law_303 : decode cL_law 303 = .ok (.iconst 1, 1) := by decide +kernel
theorem dL_law_304 : decode cL_law 304 = .ok (.iadd, 1) := by decide +kernel
theorem dL_law_305 : decode cL_law 305 = .ok (.iaload, 1) := by decide +kernel
theorem dL_law_306 : decode cL_law 306 = .ok (.aload_n 0, 1) := by decide +kernel
theorem dL_law_307 : decode cL_law 307 = .ok (.iload_n 3, 1) := by decide +kernel
theorem dL_law_308 : decode cL_law 308 = .ok (.iconst 2, 1) := by decide +kernel
theorem dL_law_309 : decode cL_law 309 = .ok (.iadd, 1) := by decide +kernel
theorem dL_law_310 : decode cL_law 310 = .ok (.iaload, 1) := by decide +kernel
theorem dL_law_311 : decode cL_law 311 = .ok (.aload_n 0, 1) := by decide +kernel
theorem dL_law_312 : decode cL_law 312 = .ok (.iload_n 3, 1) := by decide +kernel
theorem dL_law_313 : decode cL_law 313 = .ok (.iconst 3, 1) := by decide +kernel
theorem dL_law_314 : decode cL_law 314 = .ok (.iadd, 1) := by decide +kernel
theorem dL_law_315 : decode cL_law 315 = .ok (.iaload, 1) := by decide +kernel
theorem dL_law_316 : decode cL_law 316 = .ok (.aload_n 0, 1) := by decide +kernel
theorem dL_law_317 : decode cL_law 317 = .ok (.iload_n 3, 1) := by decide +kernel
theorem dL_law_318 : decode cL_law 318 = .ok (.iconst 4, 1) := by decide +kernel
theorem dL_law_319 : decode cL_law 319 = .ok (.iadd, 1) := by decide +kernel
theorem dL_law_320 : decode cL_law 320 = .ok (.iaload, 1) := by decide +kernel
theorem dL_law_321 : decode cL_law 321 = .ok (.invokevirtual 32, 3) := by decide +kernel
theorem dL_law_324 : decode cL_law 324 = .ok (.aload_n 2, 1) := by decide +kernel
theorem dL_law_325 : decode cL_law 325 = .ok (.aload_n 0, 1) := by decide +kernel
theorem dL_law_326 : decode cL_law 326 = .ok (.iload_n 3, 1) := by decide +kernel
theorem dL_law_327 : decode cL_law 327 = .ok (.iconst 1, 1) := by decide +kernel
theorem dL_law_328 : decode cL_law 328 = .ok (.iadd, 1) := by decide +kernel
theorem dL_law_329 : decode cL_law 329 = .ok (.iaload, 1) := by decide +kernel
theorem dL_law_330 : decode cL_law 330 = .ok (.aload_n 0, 1) := by decide +kernel
theorem dL_law_331 : decode cL_law 331 = .ok (.iload_n 3, 1) := by decide +kernel
theorem dL_law_332 : decode cL_law 332 = .ok (.iconst 2, 1) := by decide +kernel
theorem dL_law_333 : decode cL_law 333 = .ok (.iadd, 1) := by decide +kernel
theorem dL_law_334 : decode cL_law 334 = .ok (.iaload, 1) := by decide +kernel
theorem dL_law_335 : decode cL_law 335 = .ok (.aload_n 0, 1) := by decide +kernel
theorem dL_law_336 : decode cL_law 336 = .ok (.iload_n 3, 1) := by decide +kernel
theorem dL_law_337 : decode cL_law 337 = .ok (.iconst 3, 1) := by decide +kernel
theorem dL_law_338 : decode cL_law 338 = .ok (.iadd, 1) := by decide +kernel
theorem dL_law_339 : decode cL_law 339 = .ok (.iaload, 1) := by decide +kernel
theorem dL_law_340 : decode cL_law 340 = .ok (.aload_n 0, 1) := by decide +kernel
theorem dL_law_341 : decode cL_law 341 = .ok (.iload_n 3, 1) := by decide +kernel
theorem dL_law_342 : decode cL_law 342 = .ok (.iconst 4, 1) := by decide +kernel
theorem dL_law_343 : decode cL_law 343 = .ok (.iadd, 1) := by decide +kernel
theorem dL_law_344 : decode cL_law 344 = .ok (.iaload, 1) := by decide +kernel
theorem dL_law_345 : decode cL_law 345 = .ok (.invokevirtual 36, 3) := by decide +kernel
theorem dL_law_348 : decode cL_law 348 = .ok (.if_icmp .eq 451, 3) := by decide +kernel
theorem dL_law_351 : decode cL_law 351 = .ok (.iconst 0, 1) := by decide +kernel
theorem dL_law_352 : decode cL_law 352 = .ok (.ireturn, 1) := by decide +kernel
theorem dL_law_353 : decode cL_law 353 = .ok (.aload_n 1, 1) := by decide +kernel
theorem dL_law_354 : decode cL_law 354 = .ok (.aload_n 0, 1) := by decide +kernel
theorem dL_law_355 : decode cL_law 355 = .ok (.iload_n 3, 1) := by decide +kernel
theorem dL_law_356 : decode cL_law 356 = .ok (.iconst 1, 1) := by decide +kernel
theorem dL_law_357 : decode cL_law 357 = .ok (.iadd, 1) := by decide +kernel
theorem dL_law_358 : decode cL_law 358 = .ok (.iaload, 1) := by decide +kernel
theorem dL_law_359 : decode cL_law 359 = .ok (.aload_n 0, 1) := by decide +kernel
theorem dL_law_360 : decode cL_law 360 = .ok (.iload_n 3, 1) := by decide +kernel
theorem dL_law_361 : decode cL_law 361 = .ok (.iconst 2, 1) := by decide +kernel
theorem dL_law_362 : decode cL_law 362 = .ok (.iadd, 1) := by decide +kernel
theorem dL_law_363 : decode cL_law 363 = .ok (.iaload, 1) := by decide +kernel
theorem dL_law_364 : decode cL_law 364 = .ok (.aload_n 0, 1) := by decide +kernel
theorem dL_law_365 : decode cL_law 365 = .ok (.iload_n 3, 1) := by decide +kernel
theorem dL_law_366 : decode cL_law 366 = .ok (.iconst 3, 1) := by decide +kernel
theorem dL_law_367 : decode cL_law 367 = .ok (.iadd, 1) := by decide +kernel
theorem dL_law_368 : decode cL_law 368 = .ok (.iaload, 1) := by decide +kernel
theorem dL_law_369 : decode cL_law 369 = .ok (.aload_n 0, 1) := by decide +kernel
theorem dL_law_370 : decode cL_law 370 = .ok (.iload_n 3, 1) := by decide +kernel
theorem dL_law_371 : decode cL_law 371 = .ok (.iconst 4, 1) := by decide +kernel
theorem dL_law_372 : decode cL_law 372 = .ok (.iadd, 1) := by decide +kernel
theorem dL_law_373 : decode cL_law 373 = .ok (.iaload, 1) := by decide +kernel
theorem dL_law_374 : decode cL_law 374 = .ok (.invokevirtual 37, 3) := by decide +kernel
theorem dL_law_377 : decode cL_law 377 = .ok (.aload_n 2, 1) := by decide +kernel
theorem dL_law_378 : decode cL_law 378 = .ok (.aload_n 0, 1) := by decide +kernel
theorem dL_law_379 : decode cL_law 379 = .ok (.iload_n 3, 1) := by decide +kernel
theorem dL_law_380 : decode cL_law 380 = .ok (.iconst 1, 1) := by decide +kernel
theorem dL_law_381 : decode cL_law 381 = .ok (.iadd, 1) := by decide +kernel
theorem dL_law_382 : decode cL_law 382 = .ok (.iaload, 1) := by decide +kernel
theorem dL_law_383 : decode cL_law 383 = .ok (.aload_n 0, 1) := by decide +kernel
theorem dL_law_384 : decode cL_law 384 = .ok (.iload_n 3, 1) := by decide +kernel
theorem dL_law_385 : decode cL_law 385 = .ok (.iconst 2, 1) := by decide +kernel
theorem dL_law_386 : decode cL_law 386 = .ok (.iadd, 1) := by decide +kernel
theorem dL_law_387 : decode cL_law 387 = .ok (.iaload, 1) := by decide +kernel
theorem dL_law_388 : decode cL_law 388 = .ok (.aload_n 0, 1) := by decide +kernel
theorem dL_law_389 : decode cL_law 389 = .ok (.iload_n 3, 1) := by decide +kernel
theorem dL_law_390 : decode cL_law 390 = .ok (.iconst 3, 1) := by decide +kernel
theorem dL_law_391 : decode cL_law 391 = .ok (.iadd, 1) := by decide +kernel
theorem dL_law_392 : decode cL_law 392 = .ok (.iaload, 1) := by decide +kernel
theorem dL_law_393 : decode cL_law 393 = .ok (.aload_n 0, 1) := by decide +kernel
theorem dL_law_394 : decode cL_law 394 = .ok (.iload_n 3, 1) := by decide +kernel
theorem dL_law_395 : decode cL_law 395 = .ok (.iconst 4, 1) := by decide +kernel
theorem dL_law_396 : decode cL_law 396 = .ok (.iadd, 1) := by decide +kernel
theorem dL_law_397 : decode cL_law 397 = .ok (.iaload, 1) := by decide +kernel
theorem dL_law_398 : decode cL_law 398 = .ok (.invokevirtual 40, 3) := by decide +kernel
theorem dL_law_401 : decode cL_law 401 = .ok (.if_icmp .eq 398, 3) := by decide +kernel
theorem dL_law_404 : decode cL_law 404 = .ok (.iconst 0, 1) := by decide +kernel
theorem dL_law_405 : decode cL_law 405 = .ok (.ireturn, 1) := by decide +kernel
theorem dL_law_406 : decode cL_law 406 = .ok (.aload_n 1, 1) := by decide +kernel
theorem dL_law_407 : decode cL_law 407 = .ok (.aload_n 0, 1) := by decide +kernel
theorem dL_law_408 : decode cL_law 408 = .ok (.iload_n 3, 1) := by decide +kernel
theorem dL_law_409 : decode cL_law 409 = .ok (.iconst 1, 1) := by decide +kernel
theorem dL_law_410 : decode cL_law 410 = .ok (.iadd, 1) := by decide +kernel
theorem dL_law_411 : decode cL_law 411 = .ok (.iaload, 1) := by decide +kernel
theorem dL_law_412 : decode cL_law 412 = .ok (.invokevirtual 41, 3) := by decide +kernel
theorem dL_law_415 : decode cL_law 415 = .ok (.aload_n 2, 1) := by decide +kernel
theorem dL_law_416 : decode cL_law 416 = .ok (.aload_n 0, 1) := by decide +kernel
theorem dL_law_417 : decode cL_law 417 = .ok (.iload_n 3, 1) := by decide +kernel
theorem dL_law_418 : decode cL_law 418 = .ok (.iconst 1, 1) := by decide +kernel
theorem dL_law_419 : decode cL_law 419 = .ok (.iadd, 1) := by decide +kernel
theorem dL_law_420 : decode cL_law 420 = .ok (.iaload, 1) := by decide +kernel
theorem dL_law_421 : decode cL_law 421 = .ok (.invokevirtual 45, 3) := by decide +kernel
theorem dL_law_424 : decode cL_law 424 = .ok (.if_icmp .eq 375, 3) := by decide +kernel
theorem dL_law_427 : decode cL_law 427 = .ok (.iconst 0, 1) := by decide +kernel
theorem dL_law_428 : decode cL_law 428 = .ok (.ireturn, 1) := by decide +kernel
theorem dL_law_429 : decode cL_law 429 = .ok (.aload_n 1, 1) := by decide +kernel
theorem dL_law_430 : decode cL_law 430 = .ok (.aload_n 0, 1) := by decide +kernel
theorem dL_law_431 : decode cL_law 431 = .ok (.iload_n 3, 1) := by decide +kernel
theorem dL_law_432 : decode cL_law 432 = .ok (.iconst 1, 1) := by decide +kernel
theorem dL_law_433 : decode cL_law 433 = .ok (.iadd, 1) := by decide +kernel
theorem dL_law_434 : decode cL_law 434 = .ok (.iaload, 1) := by decide +kernel
theorem dL_law_435 : decode cL_law 435 = .ok (.aload_n 0, 1) := by decide +kernel
theorem dL_law_436 : decode cL_law 436 = .ok (.iload_n 3, 1) := by decide +kernel
theorem dL_law_437 : decode cL_law 437 = .ok (.iconst 2, 1) := by decide +kernel
theorem dL_law_438 : decode cL_law 438 = .ok (.iadd, 1) := by decide +kernel
theorem dL_law_439 : decode cL_law 439 = .ok (.iaload, 1) := by decide +kernel
theorem dL_law_440 : decode cL_law 440 = .ok (.aload_n 0, 1) := by decide +kernel
theorem dL_law_441 : decode cL_law 441 = .ok (.iload_n 3, 1) := by decide +kernel
theorem dL_law_442 : decode cL_law 442 = .ok (.iconst 3, 1) := by decide +kernel
theorem dL_law_443 : decode cL_law 443 = .ok (.iadd, 1) := by decide +kernel
theorem dL_law_444 : decode cL_law 444 = .ok (.iaload, 1) := by decide +kernel
theorem dL_law_445 : decode cL_law 445 = .ok (.invokevirtual 46, 3) := by decide +kernel
theorem dL_law_448 : decode cL_law 448 = .ok (.aload_n 2, 1) := by decide +kernel
theorem dL_law_449 : decode cL_law 449 = .ok (.aload_n 0, 1) := by decide +kernel
theorem dL_law_450 : decode cL_law 450 = .ok (.iload_n 3, 1) := by decide +kernel
theorem dL_law_451 : decode cL_law 451 = .ok (.iconst 1, 1) := by decide +kernel
theorem dL_law_452 : decode cL_law 452 = .ok (.iadd, 1) := by decide +kernel
theorem dL_law_453 : decode cL_law 453 = .ok (.iaload, 1) := by decide +kernel
theorem dL_law_454 : decode cL_law 454 = .ok (.aload_n 0, 1) := by decide +kernel
theorem dL_law_455 : decode cL_law 455 = .ok (.iload_n 3, 1) := by decide +kernel
theorem dL_law_456 : decode cL_law 456 = .ok (.iconst 2, 1) := by decide +kernel
theorem dL_law_457 : decode cL_law 457 = .ok (.iadd, 1) := by decide +kernel
theorem dL_law_458 : decode cL_law 458 = .ok (.iaload, 1) := by decide +kernel
theorem dL_law_459 : decode cL_law 459 = .ok (.aload_n 0, 1) := by decide +kernel
theorem dL_law_460 : decode cL_law 460 = .ok (.iload_n 3, 1) := by decide +kernel
theorem dL_law_461 : decode cL_law 461 = .ok (.iconst 3, 1) := by decide +kernel
theorem dL_law_462 : decode cL_law 462 = .ok (.iadd, 1) := by decide +kernel
theorem dL_law_463 : decode cL_law 463 = .ok (.iaload, 1) := by decide +kernel
theorem dL_law_464 : decode cL_law 464 = .ok (.invokevirtual 50, 3) := by decide +kernel
theorem dL_law_467 : decode cL_law 467 = .ok (.if_icmp .eq 332, 3) := by decide +kernel
theorem dL_law_470 : decode cL_law 470 = .ok (.iconst 0, 1) := by decide +kernel
theorem dL_law_471 : decode cL_law 471 = .ok (.ireturn, 1) := by decide +kernel
theorem dL_law_472 : decode cL_law 472 = .ok (.aload_n 1, 1) := by decide +kernel
theorem dL_law_473 : decode cL_law 473 = .ok (.aload_n 0, 1) := by decide +kernel
theorem dL_law_474 : decode cL_law 474 = .ok (.iload_n 3, 1) := by decide +kernel
theorem dL_law_475 : decode cL_law 475 = .ok (.iconst 1, 1) := by decide +kernel
theorem dL_law_476 : decode cL_law 476 = .ok (.iadd, 1) := by decide +kernel
theorem dL_law_477 : decode cL_law 477 = .ok (.iaload, 1) := by decide +kernel
theorem dL_law_478 : decode cL_law 478 = .ok (.invokevirtual 51, 3) := by decide +kernel
theorem dL_law_481 : decode cL_law 481 = .ok (.aload_n 2, 1) := by decide +kernel
theorem dL_law_482 : decode cL_law 482 = .ok (.aload_n 0, 1) := by decide +kernel
theorem dL_law_483 : decode cL_law 483 = .ok (.iload_n 3, 1) := by decide +kernel
theorem dL_law_484 : decode cL_law 484 = .ok (.iconst 1, 1) := by decide +kernel
theorem dL_law_485 : decode cL_law 485 = .ok (.iadd, 1) := by decide +kernel
theorem dL_law_486 : decode cL_law 486 = .ok (.iaload, 1) := by decide +kernel
theorem dL_law_487 : decode cL_law 487 = .ok (.invokevirtual 54, 3) := by decide +kernel
theorem dL_law_490 : decode cL_law 490 = .ok (.if_icmp .eq 309, 3) := by decide +kernel
theorem dL_law_493 : decode cL_law 493 = .ok (.iconst 0, 1) := by decide +kernel
theorem dL_law_494 : decode cL_law 494 = .ok (.ireturn, 1) := by decide +kernel
theorem dL_law_495 : decode cL_law 495 = .ok (.aload_n 1, 1) := by decide +kernel
theorem dL_law_496 : decode cL_law 496 = .ok (.invokevirtual 55, 3) := by decide +kernel
theorem dL_law_499 : decode cL_law 499 = .ok (.aload_n 2, 1) := by decide +kernel
theorem dL_law_500 : decode cL_law 500 = .ok (.invokevirtual 59, 3) := by decide +kernel
theorem dL_law_503 : decode cL_law 503 = .ok (.if_icmp .eq 296, 3) := by decide +kernel
theorem dL_law_506 : decode cL_law 506 = .ok (.iconst 0, 1) := by decide +kernel
theorem dL_law_507 : decode cL_law 507 = .ok (.ireturn, 1) := by decide +kernel
theorem dL_law_508 : decode cL_law 508 = .ok (.aload_n 1, 1) := by decide +kernel
theorem dL_law_509 : decode cL_law 509 = .ok (.invokevirtual 60, 3) := by decide +kernel
theorem dL_law_512 : decode cL_law 512 = .ok (.aload_n 2, 1) := by decide +kernel
theorem dL_law_513 : decode cL_law 513 = .ok (.invokevirtual 63, 3) := by decide +kernel
theorem dL_law_516 : decode cL_law 516 = .ok (.if_icmp .eq 283, 3) := by decide +kernel
theorem dL_law_519 : decode cL_law 519 = .ok (.iconst 0, 1) := by decide +kernel
theorem dL_law_520 : decode cL_law 520 = .ok (.ireturn, 1) := by decide +kernel
theorem dL_law_521 : decode cL_law 521 = .ok (.aload_n 1, 1) := by decide +kernel
theorem dL_law_522 : decode cL_law 522 = .ok (.invokevirtual 64, 3) := by decide +kernel
theorem dL_law_525 : decode cL_law 525 = .ok (.aload_n 2, 1) := by decide +kernel
theorem dL_law_526 : decode cL_law 526 = .ok (.invokevirtual 67, 3) := by decide +kernel
theorem dL_law_529 : decode cL_law 529 = .ok (.if_icmp .eq 270, 3) := by decide +kernel
theorem dL_law_532 : decode cL_law 532 = .ok (.iconst 0, 1) := by decide +kernel
theorem dL_law_533 : decode cL_law 533 = .ok (.ireturn, 1) := by decide +kernel
theorem dL_law_534 : decode cL_law 534 = .ok (.aload_n 1, 1) := by decide +kernel
theorem dL_law_535 : decode cL_law 535 = .ok (.aload_n 0, 1) := by decide +kernel
theorem dL_law_536 : decode cL_law 536 = .ok (.iload_n 3, 1) := by decide +kernel
theorem dL_law_537 : decode cL_law 537 = .ok (.iconst 1, 1) := by decide +kernel
theorem dL_law_538 : decode cL_law 538 = .ok (.iadd, 1) := by decide +kernel
theorem dL_law_539 : decode cL_law 539 = .ok (.iaload, 1) := by decide +kernel
theorem dL_law_540 : decode cL_law 540 = .ok (.invokevirtual 68, 3) := by decide +kernel
theorem dL_law_543 : decode cL_law 543 = .ok (.aload_n 2, 1) := by decide +kernel
theorem dL_law_544 : decode cL_law 544 = .ok (.aload_n 0, 1) := by decide +kernel
theorem dL_law_545 : decode cL_law 545 = .ok (.iload_n 3, 1) := by decide +kernel
theorem dL_law_546 : decode cL_law 546 = .ok (.iconst 1, 1) := by decide +kernel
theorem dL_law_547 : decode cL_law 547 = .ok (.iadd, 1) := by decide +kernel
theorem dL_law_548 : decode cL_law 548 = .ok (.iaload, 1) := by decide +kernel
theorem dL_law_549 : decode cL_law 549 = .ok (.invokevirtual 72, 3) := by decide +kernel
theorem dL_law_552 : decode cL_law 552 = .ok (.if_icmp .eq 247, 3) := by decide +kernel
theorem dL_law_555 : decode cL_law 555 = .ok (.iconst 0, 1) := by decide +kernel
theorem dL_law_556 : decode cL_law 556 = .ok (.ireturn, 1) := by decide +kernel
theorem dL_law_557 : decode cL_law 557 = .ok (.aload_n 1, 1) := by decide +kernel
theorem dL_law_558 : decode cL_law 558 = .ok (.aload_n 0, 1) := by decide +kernel
theorem dL_law_559 : decode cL_law 559 = .ok (.iload_n 3, 1) := by decide +kernel
theorem dL_law_560 : decode cL_law 560 = .ok (.iconst 1, 1) := by decide +kernel
theorem dL_law_561 : decode cL_law 561 = .ok (.iadd, 1) := by decide +kernel
theorem dL_law_562 : decode cL_law 562 = .ok (.iaload, 1) := by decide +kernel
theorem dL_law_563 : decode cL_law 563 = .ok (.aload_n 0, 1) := by decide +kernel
theorem dL_law_564 : decode cL_law 564 = .ok (.iload_n 3, 1) := by decide +kernel
theorem dL_law_565 : decode cL_law 565 = .ok (.iconst 2, 1) := by decide +kernel
theorem dL_law_566 : decode cL_law 566 = .ok (.iadd, 1) := by decide +kernel
theorem dL_law_567 : decode cL_law 567 = .ok (.iaload, 1) := by decide +kernel
theorem dL_law_568 : decode cL_law 568 = .ok (.aload_n 0, 1) := by decide +kernel
theorem dL_law_569 : decode cL_law 569 = .ok (.iload_n 3, 1) := by decide +kernel
theorem dL_law_570 : decode cL_law 570 = .ok (.iconst 3, 1) := by decide +kernel
theorem dL_law_571 : decode cL_law 571 = .ok (.iadd, 1) := by decide +kernel
theorem dL_law_572 : decode cL_law 572 = .ok (.iaload, 1) := by decide +kernel
theorem dL_law_573 : decode cL_law 573 = .ok (.invokevirtual 73, 3) := by decide +kernel
theorem dL_law_576 : decode cL_law 576 = .ok (.aload_n 2, 1) := by decide +kernel
theorem dL_law_577 : decode cL_law 577 = .ok (.aload_n 0, 1) := by decide +kernel
theorem dL_law_578 : decode cL_law 578 = .ok (.iload_n 3, 1) := by decide +kernel
theorem dL_law_579 : decode cL_law 579 = .ok (.iconst 1, 1) := by decide +kernel
theorem dL_law_580 : decode cL_law 580 = .ok (.iadd, 1) := by decide +kernel
theorem dL_law_581 : decode cL_law 581 = .ok (.iaload, 1) := by decide +kernel
theorem dL_law_582 : decode cL_law 582 = .ok (.aload_n 0, 1) := by decide +kernel
theorem dL_law_583 : decode cL_law 583 = .ok (.iload_n 3, 1) := by decide +kernel
theorem dL_law_584 : decode cL_law 584 = .ok (.iconst 2, 1) := by decide +kernel
theorem dL_law_585 : decode cL_law 585 = .ok (.iadd, 1) := by decide +kernel
theorem dL_law_586 : decode cL_law 586 = .ok (.iaload, 1) := by decide +kernel
theorem dL_law_587 : decode cL_law 587 = .ok (.aload_n 0, 1) := by decide +kernel
theorem dL_law_588 : decode cL_law 588 = .ok (.iload_n 3, 1) := by decide +kernel
theorem dL_law_589 : decode cL_law 589 = .ok (.iconst 3, 1) := by decide +kernel
theorem dL_law_590 : decode cL_law 590 = .ok (.iadd, 1) := by decide +kernel
theorem dL_law_591 : decode cL_law 591 = .ok (.iaload, 1) := by decide +kernel
theorem dL_law_592 : decode cL_law 592 = .ok (.invokevirtual 76, 3) := by decide +kernel
theorem dL_law_595 : decode cL_law 595 = .ok (.if_icmp .eq 204, 3) := by decide +kernel
theorem dL_law_598 : decode cL_law 598 = .ok (.iconst 0, 1) := by decide +kernel
theorem dL_law_599 : decode cL_law 599 = .ok (.ireturn, 1) := by decide +kernel
theorem dL_law_600 : decode cL_law 600 = .ok (.aload_n 1, 1) := by decide +kernel
theorem dL_law_601 : decode cL_law 601 = .ok (.aload_n 0, 1) := by decide +kernel
theorem dL_law_602 : decode cL_law 602 = .ok (.iload_n 3, 1) := by decide +kernel
theorem dL_law_603 : decode cL_law 603 = .ok (.iconst 1, 1) := by decide +kernel
theorem dL_law_604 : decode cL_law 604 = .ok (.iadd, 1) := by decide +kernel
theorem dL_law_605 : decode cL_law 605 = .ok (.iaload, 1) := by decide +kernel
theorem dL_law_606 : decode cL_law 606 = .ok (.aload_n 0, 1) := by decide +kernel
theorem dL_law_607 : decode cL_law 607 = .ok (.iload_n 3, 1) := by decide +kernel
theorem dL_law_608 : decode cL_law 608 = .ok (.iconst 2, 1) := by decide +kernel
theorem dL_law_609 : decode cL_law 609 = .ok (.iadd, 1) := by decide +kernel
theorem dL_law_610 : decode cL_law 610 = .ok (.iaload, 1) := by decide +kernel
theorem dL_law_611 : decode cL_law 611 = .ok (.aload_n 0, 1) := by decide +kernel
theorem dL_law_612 : decode cL_law 612 = .ok (.iload_n 3, 1) := by decide +kernel
theorem dL_law_613 : decode cL_law 613 = .ok (.iconst 3, 1) := by decide +kernel
theorem dL_law_614 : decode cL_law 614 = .ok (.iadd, 1) := by decide +kernel
theorem dL_law_615 : decode cL_law 615 = .ok (.iaload, 1) := by decide +kernel
theorem dL_law_616 : decode cL_law 616 = .ok (.aload_n 0, 1) := by decide +kernel
theorem dL_law_617 : decode cL_law 617 = .ok (.iload_n 3, 1) := by decide +kernel
theorem dL_law_618 : decode cL_law 618 = .ok (.iconst 4, 1) := by decide +kernel
theorem dL_law_619 : decode cL_law 619 = .ok (.iadd, 1) := by decide +kernel
theorem dL_law_620 : decode cL_law 620 = .ok (.iaload, 1) := by decide +kernel
theorem dL_law_621 : decode cL_law 621 = .ok (.invokevirtual 77, 3) := by decide +kernel
theorem dL_law_624 : decode cL_law 624 = .ok (.aload_n 2, 1) := by decide +kernel
theorem dL_law_625 : decode cL_law 625 = .ok (.aload_n 0, 1) := by decide +kernel
theorem dL_law_626 : decode cL_law 626 = .ok (.iload_n 3, 1) := by decide +kernel
theorem dL_law_627 : decode cL_law 627 = .ok (.iconst 1, 1) := by decide +kernel
theorem dL_law_628 : decode cL_law 628 = .ok (.iadd, 1) := by decide +kernel
theorem dL_law_629 : decode cL_law 629 = .ok (.iaload, 1) := by decide +kernel
theorem dL_law_630 : decode cL_law 630 = .ok (.aload_n 0, 1) := by decide +kernel
theorem dL_law_631 : decode cL_law 631 = .ok (.iload_n 3, 1) := by decide +kernel
theorem dL_law_632 : decode cL_law 632 = .ok (.iconst 2, 1) := by decide +kernel
theorem dL_law_633 : decode cL_law 633 = .ok (.iadd, 1) := by decide +kernel
theorem dL_law_634 : decode cL_law 634 = .ok (.iaload, 1) := by decide +kernel
theorem dL_law_635 : decode cL_law 635 = .ok (.aload_n 0, 1) := by decide +kernel
theorem dL_law_636 : decode cL_law 636 = .ok (.iload_n 3, 1) := by decide +kernel
theorem dL_law_637 : decode cL_law 637 = .ok (.iconst 3, 1) := by decide +kernel
theorem dL_law_638 : decode cL_law 638 = .ok (.iadd, 1) := by decide +kernel
theorem dL_law_639 : decode cL_law 639 = .ok (.iaload, 1) := by decide +kernel
theorem dL_law_640 : decode cL_law 640 = .ok (.aload_n 0, 1) := by decide +kernel
theorem dL_law_641 : decode cL_law 641 = .ok (.iload_n 3, 1) := by decide +kernel
theorem dL_law_642 : decode cL_law 642 = .ok (.iconst 4, 1) := by decide +kernel
theorem dL_law_643 : decode cL_law 643 = .ok (.iadd, 1) := by decide +kernel
theorem dL_law_644 : decode cL_law 644 = .ok (.iaload, 1) := by decide +kernel
theorem dL_law_645 : decode cL_law 645 = .ok (.invokevirtual 80, 3) := by decide +kernel
theorem dL_law_648 : decode cL_law 648 = .ok (.if_icmp .eq 151, 3) := by decide +kernel
theorem dL_law_651 : decode cL_law 651 = .ok (.iconst 0, 1) := by decide +kernel
theorem dL_law_652 : decode cL_law 652 = .ok (.ireturn, 1) := by decide +kernel
theorem dL_law_653 : decode cL_law 653 = .ok (.aload_n 1, 1) := by decide +kernel
theorem dL_law_654 : decode cL_law 654 = .ok (.aload_n 0, 1) := by decide +kernel
theorem dL_law_655 : decode cL_law 655 = .ok (.iload_n 3, 1) := by decide +kernel
theorem dL_law_656 : decode cL_law 656 = .ok (.iconst 1, 1) := by decide +kernel
theorem dL_law_657 : decode cL_law 657 = .ok (.iadd, 1) := by decide +kernel
theorem dL_law_658 : decode cL_law 658 = .ok (.iaload, 1) := by decide +kernel
theorem dL_law_659 : decode cL_law 659 = .ok (.aload_n 0, 1) := by decide +kernel
theorem dL_law_660 : decode cL_law 660 = .ok (.iload_n 3, 1) := by decide +kernel
theorem dL_law_661 : decode cL_law 661 = .ok (.iconst 2, 1) := by decide +kernel
theorem dL_law_662 : decode cL_law 662 = .ok (.iadd, 1) := by decide +kernel
theorem dL_law_663 : decode cL_law 663 = .ok (.iaload, 1) := by decide +kernel
theorem dL_law_664 : decode cL_law 664 = .ok (.invokevirtual 81, 3) := by decide +kernel
theorem dL_law_667 : decode cL_law 667 = .ok (.aload_n 2, 1) := by decide +kernel
theorem dL_law_668 : decode cL_law 668 = .ok (.aload_n 0, 1) := by decide +kernel
theorem dL_law_669 : decode cL_law 669 = .ok (.iload_n 3, 1) := by decide +kernel
theorem dL_law_670 : decode cL_law 670 = .ok (.iconst 1, 1) := by decide +kernel
theorem dL_law_671 : decode cL_law 671 = .ok (.iadd, 1) := by decide +kernel
theorem dL_law_672 : decode cL_law 672 = .ok (.iaload, 1) := by decide +kernel
theorem dL_law_673 : decode cL_law 673 = .ok (.aload_n 0, 1) := by decide +kernel
theorem dL_law_674 : decode cL_law 674 = .ok (.iload_n 3, 1) := by decide +kernel
theorem dL_law_675 : decode cL_law 675 = .ok (.iconst 2, 1) := by decide +kernel
theorem dL_law_676 : decode cL_law 676 = .ok (.iadd, 1) := by decide +kernel
theorem dL_law_677 : decode cL_law 677 = .ok (.iaload, 1) := by decide +kernel
theorem dL_law_678 : decode cL_law 678 = .ok (.invokevirtual 85, 3) := by decide +kernel
theorem dL_law_681 : decode cL_law 681 = .ok (.if_icmp .eq 118, 3) := by decide +kernel
theorem dL_law_684 : decode cL_law 684 = .ok (.iconst 0, 1) := by decide +kernel
theorem dL_law_685 : decode cL_law 685 = .ok (.ireturn, 1) := by decide +kernel
theorem dL_law_686 : decode cL_law 686 = .ok (.aload_n 1, 1) := by decide +kernel
theorem dL_law_687 : decode cL_law 687 = .ok (.aload_n 0, 1) := by decide +kernel
theorem dL_law_688 : decode cL_law 688 = .ok (.iload_n 3, 1) := by decide +kernel
theorem dL_law_689 : decode cL_law 689 = .ok (.iconst 1, 1) := by decide +kernel
theorem dL_law_690 : decode cL_law 690 = .ok (.iadd, 1) := by decide +kernel
theorem dL_law_691 : decode cL_law 691 = .ok (.iaload, 1) := by decide +kernel
theorem dL_law_692 : decode cL_law 692 = .ok (.aload_n 0, 1) := by decide +kernel
theorem dL_law_693 : decode cL_law 693 = .ok (.iload_n 3, 1) := by decide +kernel
theorem dL_law_694 : decode cL_law 694 = .ok (.iconst 2, 1) := by decide +kernel
theorem dL_law_695 : decode cL_law 695 = .ok (.iadd, 1) := by decide +kernel
theorem dL_law_696 : decode cL_law 696 = .ok (.iaload, 1) := by decide +kernel
theorem dL_law_697 : decode cL_law 697 = .ok (.invokevirtual 86, 3) := by decide +kernel
theorem dL_law_700 : decode cL_law 700 = .ok (.aload_n 2, 1) := by decide +kernel
theorem dL_law_701 : decode cL_law 701 = .ok (.aload_n 0, 1) := by decide +kernel
theorem dL_law_702 : decode cL_law 702 = .ok (.iload_n 3, 1) := by decide +kernel
theorem dL_law_703 : decode cL_law 703 = .ok (.iconst 1, 1) := by decide +kernel
theorem dL_law_704 : decode cL_law 704 = .ok (.iadd, 1) := by decide +kernel
theorem dL_law_705 : decode cL_law 705 = .ok (.iaload, 1) := by decide +kernel
theorem dL_law_706 : decode cL_law 706 = .ok (.aload_n 0, 1) := by decide +kernel
theorem dL_law_707 : decode cL_law 707 = .ok (.iload_n 3, 1) := by decide +kernel
theorem dL_law_708 : decode cL_law 708 = .ok (.iconst 2, 1) := by decide +kernel
theorem dL_law_709 : decode cL_law 709 = .ok (.iadd, 1) := by decide +kernel
theorem dL_law_710 : decode cL_law 710 = .ok (.iaload, 1) := by decide +kernel
theorem dL_law_711 : decode cL_law 711 = .ok (.invokevirtual 89, 3) := by decide +kernel
theorem dL_law_714 : decode cL_law 714 = .ok (.if_icmp .eq 85, 3) := by decide +kernel
theorem dL_law_717 : decode cL_law 717 = .ok (.iconst 0, 1) := by decide +kernel
theorem dL_law_718 : decode cL_law 718 = .ok (.ireturn, 1) := by decide +kernel
theorem dL_law_719 : decode cL_law 719 = .ok (.aload_n 1, 1) := by decide +kernel
theorem dL_law_720 : decode cL_law 720 = .ok (.aload_n 0, 1) := by decide +kernel
theorem dL_law_721 : decode cL_law 721 = .ok (.iload_n 3, 1) := by decide +kernel
theorem dL_law_722 : decode cL_law 722 = .ok (.iconst 1, 1) := by decide +kernel
theorem dL_law_723 : decode cL_law 723 = .ok (.iadd, 1) := by decide +kernel
theorem dL_law_724 : decode cL_law 724 = .ok (.iaload, 1) := by decide +kernel
theorem dL_law_725 : decode cL_law 725 = .ok (.invokevirtual 90, 3) := by decide +kernel
theorem dL_law_728 : decode cL_law 728 = .ok (.aload_n 2, 1) := by decide +kernel
theorem dL_law_729 : decode cL_law 729 = .ok (.aload_n 0, 1) := by decide +kernel
theorem dL_law_730 : decode cL_law 730 = .ok (.iload_n 3, 1) := by decide +kernel
theorem dL_law_731 : decode cL_law 731 = .ok (.iconst 1, 1) := by decide +kernel
theorem dL_law_732 : decode cL_law 732 = .ok (.iadd, 1) := by decide +kernel
theorem dL_law_733 : decode cL_law 733 = .ok (.iaload, 1) := by decide +kernel
theorem dL_law_734 : decode cL_law 734 = .ok (.invokevirtual 94, 3) := by decide +kernel
theorem dL_law_737 : decode cL_law 737 = .ok (.lcmp, 1) := by decide +kernel
theorem dL_law_738 : decode cL_law 738 = .ok (.ifCond .eq 61, 3) := by decide +kernel
theorem dL_law_741 : decode cL_law 741 = .ok (.iconst 0, 1) := by decide +kernel
theorem dL_law_742 : decode cL_law 742 = .ok (.ireturn, 1) := by decide +kernel
theorem dL_law_743 : decode cL_law 743 = .ok (.aload_n 1, 1) := by decide +kernel
theorem dL_law_744 : decode cL_law 744 = .ok (.aload_n 0, 1) := by decide +kernel
theorem dL_law_745 : decode cL_law 745 = .ok (.iload_n 3, 1) := by decide +kernel
theorem dL_law_746 : decode cL_law 746 = .ok (.iconst 1, 1) := by decide +kernel
theorem dL_law_747 : decode cL_law 747 = .ok (.iadd, 1) := by decide +kernel
theorem dL_law_748 : decode cL_law 748 = .ok (.iaload, 1) := by decide +kernel
theorem dL_law_749 : decode cL_law 749 = .ok (.aload_n 0, 1) := by decide +kernel
theorem dL_law_750 : decode cL_law 750 = .ok (.iload_n 3, 1) := by decide +kernel
theorem dL_law_751 : decode cL_law 751 = .ok (.iconst 2, 1) := by decide +kernel
theorem dL_law_752 : decode cL_law 752 = .ok (.iadd, 1) := by decide +kernel
theorem dL_law_753 : decode cL_law 753 = .ok (.iaload, 1) := by decide +kernel
theorem dL_law_754 : decode cL_law 754 = .ok (.invokevirtual 95, 3) := by decide +kernel
theorem dL_law_757 : decode cL_law 757 = .ok (.aload_n 2, 1) := by decide +kernel
theorem dL_law_758 : decode cL_law 758 = .ok (.aload_n 0, 1) := by decide +kernel
theorem dL_law_759 : decode cL_law 759 = .ok (.iload_n 3, 1) := by decide +kernel
theorem dL_law_760 : decode cL_law 760 = .ok (.iconst 1, 1) := by decide +kernel
theorem dL_law_761 : decode cL_law 761 = .ok (.iadd, 1) := by decide +kernel
theorem dL_law_762 : decode cL_law 762 = .ok (.iaload, 1) := by decide +kernel
theorem dL_law_763 : decode cL_law 763 = .ok (.aload_n 0, 1) := by decide +kernel
theorem dL_law_764 : decode cL_law 764 = .ok (.iload_n 3, 1) := by decide +kernel
theorem dL_law_765 : decode cL_law 765 = .ok (.iconst 2, 1) := by decide +kernel
theorem dL_law_766 : decode cL_law 766 = .ok (.iadd, 1) := by decide +kernel
theorem dL_law_767 : decode cL_law 767 = .ok (.iaload, 1) := by decide +kernel
theorem dL_law_768 : decode cL_law 768 = .ok (.invokevirtual 98, 3) := by decide +kernel
theorem dL_law_771 : decode cL_law 771 = .ok (.if_icmp .eq 28, 3) := by decide +kernel
theorem dL_law_774 : decode cL_law 774 = .ok (.iconst 0, 1) := by decide +kernel
theorem dL_law_775 : decode cL_law 775 = .ok (.ireturn, 1) := by decide +kernel
theorem dL_law_776 : decode cL_law 776 = .ok (.aload_n 1, 1) := by decide +kernel
theorem dL_law_777 : decode cL_law 777 = .ok (.aload_n 0, 1) := by decide +kernel
theorem dL_law_778 : decode cL_law 778 = .ok (.iload_n 3, 1) := by decide +kernel
theorem dL_law_779 : decode cL_law 779 = .ok (.iconst 1, 1) := by decide +kernel
theorem dL_law_780 : decode cL_law 780 = .ok (.iadd, 1) := by decide +kernel
theorem dL_law_781 : decode cL_law 781 = .ok (.iaload, 1) := by decide +kernel
theorem dL_law_782 : decode cL_law 782 = .ok (.invokevirtual 99, 3) := by decide +kernel
theorem dL_law_785 : decode cL_law 785 = .ok (.aload_n 2, 1) := by decide +kernel
theorem dL_law_786 : decode cL_law 786 = .ok (.aload_n 0, 1) := by decide +kernel
theorem dL_law_787 : decode cL_law 787 = .ok (.iload_n 3, 1) := by decide +kernel
theorem dL_law_788 : decode cL_law 788 = .ok (.iconst 1, 1) := by decide +kernel
theorem dL_law_789 : decode cL_law 789 = .ok (.iadd, 1) := by decide +kernel
theorem dL_law_790 : decode cL_law 790 = .ok (.iaload, 1) := by decide +kernel
theorem dL_law_791 : decode cL_law 791 = .ok (.invokevirtual 102, 3) := by decide +kernel
theorem dL_law_794 : decode cL_law 794 = .ok (.if_icmp .eq 5, 3) := by decide +kernel
theorem dL_law_797 : decode cL_law 797 = .ok (.iconst 0, 1) := by decide +kernel
theorem dL_law_798 : decode cL_law 798 = .ok (.ireturn, 1) := by decide +kernel
theorem dL_law_799 : decode cL_law 799 = .ok (.iinc 3 6, 3) := by decide +kernel
theorem dL_law_802 : decode cL_law 802 = .ok (.goto (-784), 3) := by decide +kernel
theorem dL_law_805 : decode cL_law 805 = .ok (.iconst 1, 1) := by decide +kernel
theorem dL_law_806 : decode cL_law 806 = .ok (.ireturn, 1) := by decide +kernel
end
section
/-- the links of private members of nest mates -/
def nestL : List (String × Nat × MethodName × String) := [(RX10, 11, yX8_init, RX10), (RX10, 25, yX9_init, RX10), (RX10, 32, yX4_init, RX10), (RX10, 39, yX1_init, RX10), (RX10, 46, yX7_init, RX10), (RX10, 76, yX3_init, RX10), (RX2, 47, yX10_isWithin, RX10), (RX2, 51, yX10_isDay, RX10), (RX9, 15, yX10_isField, RX10), (RX0, 85, yX10_isMinute, RX10)]
end
section
/-! ===== base: the state of an object's cells, the layout, the world, the rows over it ===== -/
abbrev St : Type := (Nat → Nat → Int32) × (Nat → Nat → Int64)
abbrev Fdx : Type := Nat ⊕ Bool
abbrev Lay : Type := (Nat × Nat) ⊕ (Nat × List Fdx)
def wr (σ : St) (k j : Nat) (v : Int32) : St := (fun a => if a = k then upd (σ.1 a) j v else σ.1 a, σ.2)
def wl (σ : St) (k j : Nat) (v : Int64) : St := (σ.1, fun a => if a = k then vp_updL (σ.2 a) j v else σ.2 a)
def fval (q : Nat → Nat) (σ : St) (k j : Nat) (f : Fdx) : Value := match f with
  | .inl a => .ref (q a)
  | .inr false => .int (σ.1 k j)
  | .inr true => .long (σ.2 k j)
def cval (cs : Nat → ClassId) (q : Nat → Nat) (σ : St) (k : Nat) (x : Lay) : va_E := match x with
  | .inl (t, n) => .inl (cs t, n, if t = 3 then .inr (.inl (σ.2 k)) else .inl (σ.1 k))
  | .inr (ci, fs) => .inr (ci, fs.mapIdx (fun j f => fval q σ k j f))
def wd (cs : Nat → ClassId) (L : List Lay) (q : Nat → Nat) (σ : St) : va_W := L.mapIdx (fun k x => (q k, cval cs q σ k x))
theorem wd_at {cs : Nat → ClassId} {L : List Lay} {q : Nat → Nat} {σ : St} {k : Nat} {x : Lay} (h : L[k]? = some x) : (wd cs L q σ)[k]? = some (q k, cval cs q σ k x) := by
  unfold wd
  rw [List.getElem?_mapIdx, h]
  rfl
theorem wd_inv {cs : Nat → ClassId} {L : List Lay} {q : Nat → Nat} {σ : St} {k : Nat} {e : Nat × va_E} (h : (wd cs L q σ)[k]? = some e) : ∃ x, L[k]? = some x ∧ e = (q k, cval cs q σ k x) := by
  unfold wd at h
  rw [List.getElem?_mapIdx] at h
  cases hx : L[k]? with
  | none => rw [hx] at h; cases h
  | some x => rw [hx] at h; exact ⟨x, rfl, (Option.some.inj h).symm⟩
theorem wd_set {cs : Nat → ClassId} {L : List Lay} {q : Nat → Nat} {σ σ' : St} {k : Nat} {x0 : Lay} {e : va_E} (hk : L[k]? = some x0) (hself : cval cs q σ' k x0 = e) (hoth : ∀ (j : Nat) (x : Lay), j ≠ k → cval cs q σ' j x = cval cs q σ j x) : (wd cs L q σ).set k (q k, e) = wd cs L q σ' := by
  apply List.ext_getElem?
  intro j
  rw [List.getElem?_set]
  by_cases hj : k = j
  · subst hj
    have hl : k < (wd cs L q σ).length := by
      have := (List.getElem?_eq_some_iff.mp (wd_at (cs := cs) (q := q) (σ := σ) hk)).1
      exact this
    rw [if_pos rfl, if_pos hl, wd_at hk, hself]
  · rw [if_neg hj]
    cases hx : L[j]? with
    | none =>
      unfold wd
      rw [List.getElem?_mapIdx, List.getElem?_mapIdx, hx]
      rfl
    | some x => rw [wd_at hx, wd_at hx, hoth j x (fun h => hj h.symm)]
theorem cval_wr {cs : Nat → ClassId} {q : Nat → Nat} {σ : St} {k j : Nat} {v : Int32} (a : Nat) (x : Lay) (h : a ≠ k) : cval cs q (wr σ k j v) a x = cval cs q σ a x := by
  have e1 : (wr σ k j v).1 a = σ.1 a := if_neg h
  have e2 : (wr σ k j v).2 = σ.2 := rfl
  rcases x with ⟨t, n⟩ | ⟨ci, fs⟩
  · simp only [cval, e1, e2]
  · simp only [cval]
    refine congrArg (fun z => Sum.inr (ci, z)) (congrArg (fun g => List.mapIdx g fs) ?_)
    funext i f
    rcases f with f | f | f <;> simp only [fval, e1, e2]
theorem cval_wl {cs : Nat → ClassId} {q : Nat → Nat} {σ : St} {k j : Nat} {v : Int64} (a : Nat) (x : Lay) (h : a ≠ k) : cval cs q (wl σ k j v) a x = cval cs q σ a x := by
  have e1 : (wl σ k j v).2 a = σ.2 a := if_neg h
  have e2 : (wl σ k j v).1 = σ.1 := rfl
  rcases x with ⟨t, n⟩ | ⟨ci, fs⟩
  · simp only [cval, e1, e2]
  · simp only [cval]
    refine congrArg (fun z => Sum.inr (ci, z)) (congrArg (fun g => List.mapIdx g fs) ?_)
    funext i f
    rcases f with f | f | f <;> simp only [fval, e1, e2]
theorem wr_self (σ : St) (k j : Nat) (v : Int32) : (wr σ k j v).1 k = upd (σ.1 k) j v := if_pos rfl
theorem wl_self (σ : St) (k j : Nat) (v : Int64) : (wl σ k j v).2 k = vp_updL (σ.2 k) j v := if_pos rfl
theorem wd_puti {cs : Nat → ClassId} {L : List Lay} {q : Nat → Nat} {σ : St} {k ci j : Nat} {fs : List Fdx} {v : Int32} (hL : L[k]? = some (.inr (ci, fs))) (hf : fs[j]? = some (.inr false)) : (wd cs L q σ).set k (q k, .inr (ci, (fs.mapIdx (fun j f => fval q σ k j f)).set j (.int v))) = wd cs L q (wr σ k j v) := by
  refine wd_set hL ?_ (fun a x h => cval_wr a x h)
  simp only [cval]
  congr 2
  apply List.ext_getElem?
  intro i
  rw [List.getElem?_set, List.getElem?_mapIdx, List.getElem?_mapIdx, List.length_mapIdx]
  by_cases hi : j = i
  · subst hi
    have hl := (List.getElem?_eq_some_iff.mp hf).1
    rw [if_pos rfl, if_pos hl, hf]
    simp [fval, wr, upd]
  · rw [if_neg hi]
    cases hx : fs[i]? with
    | none => rfl
    | some f =>
      rcases f with f | f | f <;> simp only [Option.map_some, fval, wr, upd, if_true, if_neg (fun h : i = j => hi h.symm)]
theorem wd_putl {cs : Nat → ClassId} {L : List Lay} {q : Nat → Nat} {σ : St} {k ci j : Nat} {fs : List Fdx} {v : Int64} (hL : L[k]? = some (.inr (ci, fs))) (hf : fs[j]? = some (.inr true)) : (wd cs L q σ).set k (q k, .inr (ci, (fs.mapIdx (fun j f => fval q σ k j f)).set j (.long v))) = wd cs L q (wl σ k j v) := by
  refine wd_set hL ?_ (fun a x h => cval_wl a x h)
  simp only [cval]
  congr 2
  apply List.ext_getElem?
  intro i
  rw [List.getElem?_set, List.getElem?_mapIdx, List.getElem?_mapIdx, List.length_mapIdx]
  by_cases hi : j = i
  · subst hi
    have hl := (List.getElem?_eq_some_iff.mp hf).1
    rw [if_pos rfl, if_pos hl, hf]
    simp [fval, wl, vp_updL]
  · rw [if_neg hi]
    cases hx : fs[i]? with
    | none => rfl
    | some f =>
      rcases f with f | f | f <;> simp only [Option.map_some, fval, wl, vp_updL, if_true, if_neg (fun h : i = j => hi h.symm)]
theorem wd_sti {cs : Nat → ClassId} {L : List Lay} {q : Nat → Nat} {σ : St} {k t n i : Nat} {v : Int32} (hL : L[k]? = some (.inl (t, n))) (ht : t ≠ 3) : (wd cs L q σ).set k (q k, .inl (cs t, n, .inl (upd (σ.1 k) i v))) = wd cs L q (wr σ k i v) :=
  wd_set hL (by simp only [cval, if_neg ht, wr_self]) (fun a x h => cval_wr a x h)
theorem wd_stl {cs : Nat → ClassId} {L : List Lay} {q : Nat → Nat} {σ : St} {k n i : Nat} {v : Int64} (hL : L[k]? = some (.inl (3, n))) : (wd cs L q σ).set k (q k, .inl (cs 3, n, .inr (.inl (vp_updL (σ.2 k) i v)))) = wd cs L q (wl σ k i v) :=
  wd_set hL (by simp only [cval, if_true, wl_self]) (fun a x h => cval_wl a x h)
theorem wd_D {cs : Nat → ClassId} {L : List Lay} {q : Nat → Nat} {σ σ' : St} {A : Nat → Prop} (h : va_D A (wd cs L q σ)) : va_D A (wd cs L q σ') := by
  refine ⟨fun i j a b hi hj hab => ?_, fun k a hk => ?_⟩
  · obtain ⟨x, hx, rfl⟩ := wd_inv hi
    obtain ⟨y, hy, rfl⟩ := wd_inv hj
    exact h.1 i j _ _ (wd_at hx) (wd_at hy) hab
  · obtain ⟨x, hx, rfl⟩ := wd_inv hk
    exact h.2 k (q k, cval cs q σ k x) (wd_at hx)
def tys (cs : Nat → ClassId) : List (ClassId × FieldType) := [(cs 0, .int), (cs 1, .boolean), (cs 2, .byte), (cs 3, .long)]
/-- the addresses of a world, and all from sz on -/
def Ar (L : List Lay) (q : Nat → Nat) (sz : Nat) : Nat → Prop := fun a => (∃ k, k < L.length ∧ a = q k) ∨ sz ≤ a
theorem Ar_D {cs : Nat → ClassId} {L : List Lay} {q : Nat → Nat} {σ : St} {A : Nat → Prop} {sz : Nat} (h : va_D A (wd cs L q σ)) : va_D (Ar L q sz) (wd cs L q σ) := by
  refine ⟨h.1, fun k a hk => ?_⟩
  obtain ⟨x, hx, rfl⟩ := wd_inv hk
  exact Or.inl ⟨k, (List.getElem?_eq_some_iff.mp hx).1, rfl⟩
theorem Ar_le {cs : Nat → ClassId} {L : List Lay} {q : Nat → Nat} {σ : St} {A : Nat → Prop} {sz : Nat} (h : va_D A (wd cs L q σ)) (hs : ∀ a, sz ≤ a → A a) : ∀ a, Ar L q sz a → A a := by
  intro a ha
  rcases ha with ⟨k, hk, rfl⟩ | ha
  · exact h.2 k (q k, _) (wd_at (List.getElem?_eq_getElem hk))
  · exact hs a ha
-- the words: those of the tables that a call hands on
def gw : List Cond := lw_tbl.filter goodWord
theorem gw_of {i : Nat} {w : Cond} (h : lw_tbl[i]? = some w) (hg : goodWord w = true) : w ∈ gw := List.mem_filter.mpr ⟨List.mem_of_getElem? h, hg⟩
theorem gw_good {w : Cond} (h : w ∈ gw) : goodWord w = true := (List.mem_filter.mp h).2
theorem gw_in {ws : List Cond} (h : ∀ w ∈ ws, w ∈ gw) : GoodIn gw ws := fun w hw => ⟨h w hw, good_of_word (gw_good (h w hw))⟩
def NW (U : State) : Prop := ∀ q ∈ nestL, va_Nw (.methodLinkNest q.1 q.2.1 q.2.2.1 q.2.2.2) U
theorem NW.warm {s U : State} (hW : s.WarmedH U.vm) (h : NW s) : NW U := fun q hq => va_Nw.warmM hW (h q hq)
theorem NW.same {u U : State} (hv : u.vm = U.vm) (h : NW u) : NW U := fun q hq => va_Nw.same rfl hv (h q hq)
-- the context of a method's walk
def CX (p : Program) (R : Room) (s : State) (m : MethodId) (args : Array Value) (meth : Method) (c : Code) (cc : ByteArray) (nL : Nat) (own : String) (fr lo : Nat) (D : va_G) (cs : Nat → ClassId) : Prop :=
  p.tables.exec = Jvm.exec ∧ c.code = cc ∧ c.maxLocals = nL ∧ s.vm.findClass own = some m.cls ∧ (∀ w ∈ gw, w.before args s = true) ∧ va_K D vwCl (tys cs) s ∧ NW s ∧ fr ≤ R.frames ∧ lo ≤ R.locals
def OK (D : va_G) (cs : Nat → ClassId) (L : List Lay) (q : Nat → Nat) (s : State) (σ : St) (H : Heap) (locs : List Loc) : Prop :=
  va_P D vwCl (wd cs L q σ) H ∧ va_D (Ar L q s.heap.size) (wd cs L q σ) ∧ va_S (Ar L q s.heap.size) s.heap H locs
def RI (p : Program) (l : Launch) (e : Env) (R : Room) (s : State) (m : MethodId) (args : Array Value) (below : List Frame) (meth : Method) (c : Code) (cc : ByteArray) (D : va_G) (cs : Nat → ClassId) (L : List Lay) (q : Nat → Nat) (ty : FieldType) (Q : Int32 → St → Prop) (E : State → Prop) : Prop :=
  ∀ (r : Int32) (σ : St) (H : Heap) (locs : List Loc) (pc : Nat) (ls : Array Slot), narrow ty (.int r) = .int r → OK D cs L q s σ H locs → Q r σ → decode cc pc = .ok (.ireturn, 1) → W p l e R s m args below meth c H locs 0 0 E (F0 m pc ls [.int r])
def RLx (p : Program) (l : Launch) (e : Env) (R : Room) (s : State) (m : MethodId) (args : Array Value) (below : List Frame) (meth : Method) (c : Code) (cc : ByteArray) (D : va_G) (cs : Nat → ClassId) (L : List Lay) (q : Nat → Nat) (Q : Int64 → St → Prop) (E : State → Prop) : Prop :=
  ∀ (r : Int64) (σ : St) (H : Heap) (locs : List Loc) (pc : Nat) (ls : Array Slot), OK D cs L q s σ H locs → Q r σ → decode cc pc = .ok (.lreturn, 1) → W p l e R s m args below meth c H locs 0 0 E (F0 m pc ls [.long r])
def RV (p : Program) (l : Launch) (e : Env) (R : Room) (s : State) (m : MethodId) (args : Array Value) (below : List Frame) (meth : Method) (c : Code) (cc : ByteArray) (D : va_G) (cs : Nat → ClassId) (L : List Lay) (q : Nat → Nat) (Q : St → Prop) (E : State → Prop) : Prop :=
  ∀ (σ : St) (H : Heap) (locs : List Loc) (pc : Nat) (ls : Array Slot), OK D cs L q s σ H locs → Q σ → decode cc pc = .ok (.return_, 1) → W p l e R s m args below meth c H locs 0 0 E (F0 m pc ls [])
def RS (p : Program) (l : Launch) (e : Env) (R : Room) (s : State) (m : MethodId) (args : Array Value) (below : List Frame) (meth : Method) (c : Code) (cc : ByteArray) (ty : FieldType) (Q : Int32 → Prop) (E : State → Prop) : Prop :=
  ∀ (r : Int32) (pc : Nat) (ls : Array Slot), narrow ty (.int r) = .int r → Q r → decode cc pc = .ok (.ireturn, 1) → W p l e R s m args below meth c s.heap [] 0 0 E (F0 m pc ls [.int r])
-- a field's words, for reading and for writing
def FL (own : String) (idx ci j : Nat) : Prop := ∃ (C : String) (T : u_T) (N : Nat), vwCl[ci]? = some (C, T, N) ∧ (∀ w ∈ u_ws C T N, w ∈ gw) ∧ j < N ∧ Cond.fieldLink own idx (T j).1 (T j).2.1 (T j).2.2.1 ∈ gw
def FP (own : String) (idx ci j : Nat) (ty : FieldType) : Prop := ∃ (C : String) (T : u_T) (N : Nat) (ty0 : Nat → FieldType), vwCl[ci]? = some (C, T, N) ∧ (∀ w ∈ u_ws C T N, w ∈ gw) ∧ j < N ∧ Cond.fieldLink own idx (T j).1 (T j).2.1 (T j).2.2.1 ∈ gw ∧ (∀ k, k < N → parseFieldDescriptor (T k).2.2.1 = some (ty0 k)) ∧ (∀ a, a < N → ∀ b, b < N → a ≠ b → (T a).2.1 ≠ (T b).2.1) ∧ (T j).2.2.2 = false ∧ parseFieldDescriptor (T j).2.2.1 = some ty
-- a call's words
def MV (own : String) (idx : Nat) (C : String) (y : MethodName) (b : ByteArray) (nL : Nat) (ret : Option FieldType) (n : Nat) : Prop :=
  Cond.methodLink own idx y ∈ gw ∧ Cond.instanceMethod y ∈ gw ∧ Cond.selects C y y ∈ gw ∧ Cond.initialized C ∈ gw ∧ Cond.code y b nL ret ∈ gw ∧ (y.cls = C ∧ y.cls ≠ "java/lang/invoke/MethodHandle" ∧ y.cls ≠ "java/lang/invoke/VarHandle" ∧ (parseMethodDescriptor y.desc).map (fun d => d.parameters.length) = some n)
def MS (own : String) (idx : Nat) (y : MethodName) (b : ByteArray) (nL : Nat) (ret : Option FieldType) (n : Nat) : Prop :=
  Cond.methodLink own idx y ∈ gw ∧ Cond.static y ∈ gw ∧ Cond.initialized own ∈ gw ∧ Cond.code y b nL ret ∈ gw ∧ (y.cls = own ∧ y.cls ≠ "java/lang/invoke/MethodHandle" ∧ y.cls ≠ "java/lang/invoke/VarHandle" ∧ (parseMethodDescriptor y.desc).map (fun d => d.parameters.length) = some n)
def MN (own : String) (idx : Nat) (y : MethodName) (host : String) (b : ByteArray) (nL : Nat) (ret : Option FieldType) (n : Nat) : Prop :=
  (own, idx, y, host) ∈ nestL ∧ Cond.static y ∈ gw ∧ Cond.initialized y.cls ∈ gw ∧ Cond.code y b nL ret ∈ gw ∧ (y.cls ≠ "java/lang/invoke/MethodHandle" ∧ y.cls ≠ "java/lang/invoke/VarHandle" ∧ (parseMethodDescriptor y.desc).map (fun d => d.parameters.length) = some n)
theorem gV {own : String} {idx : Nat} {C : String} {y : MethodName} {b : ByteArray} {nL : Nat} {ret : Option FieldType} {n : Nat} (h : MV own idx C y b nL ret n) : GoodIn gw (wsV own idx C y (.code y b nL ret :: gw)) := by
  refine gw_in fun w hw => ?_
  simp only [wsV, List.cons_append, List.nil_append, List.mem_cons] at hw
  rcases hw with rfl | rfl | rfl | rfl | rfl | hw
  · exact h.1
  · exact h.2.1
  · exact h.2.2.1
  · exact h.2.2.2.1
  · exact h.2.2.2.2.1
  · exact hw
theorem gS {own : String} {idx : Nat} {y : MethodName} {b : ByteArray} {nL : Nat} {ret : Option FieldType} {n : Nat} (h : MS own idx y b nL ret n) : GoodIn gw (wsS own idx y (.code y b nL ret :: gw)) := by
  refine gw_in fun w hw => ?_
  simp only [wsS, List.cons_append, List.nil_append, List.mem_cons] at hw
  rcases hw with rfl | rfl | rfl | rfl | hw
  · exact h.1
  · exact h.2.1
  · exact h.2.2.1
  · exact h.2.2.2.1
  · exact hw
theorem gC {y : MethodName} {b : ByteArray} {nL : Nat} {ret : Option FieldType} (h : Cond.code y b nL ret ∈ gw) : GoodIn gw (.code y b nL ret :: gw) := by
  refine gw_in fun w hw => ?_
  rcases List.mem_cons.mp hw with rfl | hw
  · exact h
  · exact hw
end
section
/-! ===== the rows of the walk over a world ===== -/
section ROWS
variable {p : Program} {l : Launch} {e : Env} {R : Room} {s : State} {m : MethodId} {args : Array Value} {below : List Frame} {meth : Method} {c : Code} {H : Heap} {locs : List Loc} {E : State → Prop}
variable {cc : ByteArray} {nL : Nat} {own : String} {fr lo : Nat} {D : va_G} {cs : Nat → ClassId} {L : List Lay} {q : Nat → Nat} {σ : St} {pc : Nat} {ls : Array Slot} {rest : List Value}
theorem r_get (C : CX p R s m args meth c cc nL own fr lo D cs) (O : OK D cs L q s σ H locs) {k ci j idx : Nat} {fs : List Fdx} {f : Fdx} {v : Value} (F : FL own idx ci j) (hL : L[k]? = some (.inr (ci, fs))) (hf : fs[j]? = some f) (hv : fval q σ k j f = v) (hd : decode cc pc = .ok (.getfield idx, 3))
    (kk : W p l e R s m args below meth c H locs 0 0 E (F0 m (pc + 3) ls (v :: rest))) : W p l e R s m args below meth c H locs 0 0 E (F0 m pc ls (.ref (q k) :: rest)) := by
  obtain ⟨hx, hb, hml, hown, hts, hK, hN, hfr, hlo⟩ := C
  obtain ⟨hP, hD, hS⟩ := O
  obtain ⟨Cn, T, N, hc, hin, hj, hlk⟩ := F
  exact va_get hx hb hts hin hown hK hP k (wd_at hL) hc j hj (hts _ hlk) (fun _ h => h) (by rw [List.getElem?_mapIdx, hf]; simp only [Option.map_some, hv]) hd kk
theorem r_puti (C : CX p R s m args meth c cc nL own fr lo D cs) (O : OK D cs L q s σ H locs) {k ci j idx : Nat} {fs : List Fdx} {x : Int32} (F : FP own idx ci j .int) (hL : L[k]? = some (.inr (ci, fs))) (hf : fs[j]? = some (.inr false)) (hd : decode cc pc = .ok (.putfield idx, 3))
    (kk : ∀ (H : Heap) (locs : List Loc) (σ' : St), σ' = wr σ k j x → OK D cs L q s σ' H locs → W p l e R s m args below meth c H locs 0 0 E (F0 m (pc + 3) ls rest)) : W p l e R s m args below meth c H locs 0 0 E (F0 m pc ls (.int x :: .ref (q k) :: rest)) := by
  obtain ⟨hx, hb, hml, hown, hts, hK, hN, hfr, hlo⟩ := C
  obtain ⟨hP, hD, hS⟩ := O
  obtain ⟨Cn, T, N, ty0, hc, hin, hj, hlk, hty, hnm, hfin, hdd⟩ := F
  refine va_put (ty := .int) hx hb hts hin ty0 hty hnm hown hK hP hD hS k (wd_at hL) hc j hj (hts _ hlk) (fun _ h => h) hfin hdd (vp_nar_int x) rfl (by rw [List.length_mapIdx]; exact (List.getElem?_eq_some_iff.mp hf).1) hd (fun H1 locs1 hP1 hD1 hS1 => ?_)
  rw [wd_puti hL hf] at hP1 hD1
  exact kk H1 locs1 _ rfl ⟨hP1, hD1, hS1⟩
theorem r_putl (C : CX p R s m args meth c cc nL own fr lo D cs) (O : OK D cs L q s σ H locs) {k ci j idx : Nat} {fs : List Fdx} {x : Int64} (F : FP own idx ci j .long) (hL : L[k]? = some (.inr (ci, fs))) (hf : fs[j]? = some (.inr true)) (hd : decode cc pc = .ok (.putfield idx, 3))
    (kk : ∀ (H : Heap) (locs : List Loc) (σ' : St), σ' = wl σ k j x → OK D cs L q s σ' H locs → W p l e R s m args below meth c H locs 0 0 E (F0 m (pc + 3) ls rest)) : W p l e R s m args below meth c H locs 0 0 E (F0 m pc ls (.long x :: .ref (q k) :: rest)) := by
  obtain ⟨hx, hb, hml, hown, hts, hK, hN, hfr, hlo⟩ := C
  obtain ⟨hP, hD, hS⟩ := O
  obtain ⟨Cn, T, N, ty0, hc, hin, hj, hlk, hty, hnm, hfin, hdd⟩ := F
  refine va_put (ty := .long) hx hb hts hin ty0 hty hnm hown hK hP hD hS k (wd_at hL) hc j hj (hts _ hlk) (fun _ h => h) hfin hdd rfl rfl (by rw [List.length_mapIdx]; exact (List.getElem?_eq_some_iff.mp hf).1) hd (fun H1 locs1 hP1 hD1 hS1 => ?_)
  rw [wd_putl hL hf] at hP1 hD1
  exact kk H1 locs1 _ rfl ⟨hP1, hD1, hS1⟩
theorem r_iald (C : CX p R s m args meth c cc nL own fr lo D cs) (O : OK D cs L q s σ H locs) {k n : Nat} {i : Int32} (hL : L[k]? = some (.inl (0, n))) (hi : vp_in i n) (hd : decode cc pc = .ok (.iaload, 1))
    (kk : W p l e R s m args below meth c H locs 0 0 E (F0 m (pc + 1) ls (.int (σ.1 k i.toNatClampNeg) :: rest))) : W p l e R s m args below meth c H locs 0 0 E (F0 m pc ls (.int i :: .ref (q k) :: rest)) :=
  va_iald C.1 C.2.1 C.2.2.2.2.2.1 O.1 k 0 (wd_at hL) rfl hi hd kk
theorem r_zald (C : CX p R s m args meth c cc nL own fr lo D cs) (O : OK D cs L q s σ H locs) {k n : Nat} {i : Int32} (hL : L[k]? = some (.inl (1, n))) (hi : vp_in i n) (hd : decode cc pc = .ok (.baload, 1))
    (kk : W p l e R s m args below meth c H locs 0 0 E (F0 m (pc + 1) ls (.int (σ.1 k i.toNatClampNeg) :: rest))) : W p l e R s m args below meth c H locs 0 0 E (F0 m pc ls (.int i :: .ref (q k) :: rest)) :=
  va_zald C.1 C.2.1 C.2.2.2.2.2.1 O.1 k 1 (wd_at hL) rfl hi hd kk
theorem r_bald (C : CX p R s m args meth c cc nL own fr lo D cs) (O : OK D cs L q s σ H locs) {k n : Nat} {i : Int32} (hL : L[k]? = some (.inl (2, n))) (hi : vp_in i n) (hd : decode cc pc = .ok (.baload, 1))
    (kk : W p l e R s m args below meth c H locs 0 0 E (F0 m (pc + 1) ls (.int (σ.1 k i.toNatClampNeg) :: rest))) : W p l e R s m args below meth c H locs 0 0 E (F0 m pc ls (.int i :: .ref (q k) :: rest)) :=
  va_bald C.1 C.2.1 C.2.2.2.2.2.1 O.1 k 2 (wd_at hL) rfl hi hd kk
theorem r_lald (C : CX p R s m args meth c cc nL own fr lo D cs) (O : OK D cs L q s σ H locs) {k n : Nat} {i : Int32} (hL : L[k]? = some (.inl (3, n))) (hi : vp_in i n) (hd : decode cc pc = .ok (.laload, 1))
    (kk : W p l e R s m args below meth c H locs 0 0 E (F0 m (pc + 1) ls (.long (σ.2 k i.toNatClampNeg) :: rest))) : W p l e R s m args below meth c H locs 0 0 E (F0 m pc ls (.int i :: .ref (q k) :: rest)) :=
  va_lald C.1 C.2.1 C.2.2.2.2.2.1 O.1 k 3 (wd_at hL) rfl hi hd kk
theorem r_iast (C : CX p R s m args meth c cc nL own fr lo D cs) (O : OK D cs L q s σ H locs) {k n : Nat} {i x : Int32} (hL : L[k]? = some (.inl (0, n))) (hi : vp_in i n) (hd : decode cc pc = .ok (.iastore, 1))
    (kk : ∀ (H : Heap) (locs : List Loc) (σ' : St), σ' = wr σ k i.toNatClampNeg x → OK D cs L q s σ' H locs → W p l e R s m args below meth c H locs 0 0 E (F0 m (pc + 1) ls rest)) : W p l e R s m args below meth c H locs 0 0 E (F0 m pc ls (.int x :: .int i :: .ref (q k) :: rest)) := by
  refine va_iast C.1 C.2.1 C.2.2.2.2.2.1 O.1 O.2.1 O.2.2 k 0 (wd_at hL) rfl hi hd (fun H1 locs1 hP1 hD1 hS1 => ?_)
  rw [wd_sti hL (by decide)] at hP1 hD1
  exact kk H1 locs1 _ rfl ⟨hP1, hD1, hS1⟩
theorem r_zast (C : CX p R s m args meth c cc nL own fr lo D cs) (O : OK D cs L q s σ H locs) {k n : Nat} {i x : Int32} (hL : L[k]? = some (.inl (1, n))) (hi : vp_in i n) (hd : decode cc pc = .ok (.bastore, 1))
    (kk : ∀ (H : Heap) (locs : List Loc) (σ' : St), σ' = wr σ k i.toNatClampNeg (x &&& 1) → OK D cs L q s σ' H locs → W p l e R s m args below meth c H locs 0 0 E (F0 m (pc + 1) ls rest)) : W p l e R s m args below meth c H locs 0 0 E (F0 m pc ls (.int x :: .int i :: .ref (q k) :: rest)) := by
  refine va_zast C.1 C.2.1 C.2.2.2.2.2.1 O.1 O.2.1 O.2.2 k 1 (wd_at hL) rfl hi hd (fun H1 locs1 hP1 hD1 hS1 => ?_)
  rw [wd_sti hL (by decide)] at hP1 hD1
  exact kk H1 locs1 _ rfl ⟨hP1, hD1, hS1⟩
theorem r_bast (C : CX p R s m args meth c cc nL own fr lo D cs) (O : OK D cs L q s σ H locs) {k n : Nat} {i x : Int32} (hL : L[k]? = some (.inl (2, n))) (hi : vp_in i n) (hd : decode cc pc = .ok (.bastore, 1))
    (kk : ∀ (H : Heap) (locs : List Loc) (σ' : St), σ' = wr σ k i.toNatClampNeg x.toInt8.toInt32 → OK D cs L q s σ' H locs → W p l e R s m args below meth c H locs 0 0 E (F0 m (pc + 1) ls rest)) : W p l e R s m args below meth c H locs 0 0 E (F0 m pc ls (.int x :: .int i :: .ref (q k) :: rest)) := by
  refine va_bast C.1 C.2.1 C.2.2.2.2.2.1 O.1 O.2.1 O.2.2 k 2 (wd_at hL) rfl hi hd (fun H1 locs1 hP1 hD1 hS1 => ?_)
  rw [wd_sti hL (by decide)] at hP1 hD1
  exact kk H1 locs1 _ rfl ⟨hP1, hD1, hS1⟩
theorem r_last (C : CX p R s m args meth c cc nL own fr lo D cs) (O : OK D cs L q s σ H locs) {k n : Nat} {i : Int32} {x : Int64} (hL : L[k]? = some (.inl (3, n))) (hi : vp_in i n) (hd : decode cc pc = .ok (.lastore, 1))
    (kk : ∀ (H : Heap) (locs : List Loc) (σ' : St), σ' = wl σ k i.toNatClampNeg x → OK D cs L q s σ' H locs → W p l e R s m args below meth c H locs 0 0 E (F0 m (pc + 1) ls rest)) : W p l e R s m args below meth c H locs 0 0 E (F0 m pc ls (.long x :: .int i :: .ref (q k) :: rest)) := by
  refine va_last C.1 C.2.1 C.2.2.2.2.2.1 O.1 O.2.1 O.2.2 k 3 (wd_at hL) rfl hi hd (fun H1 locs1 hP1 hD1 hS1 => ?_)
  rw [wd_stl hL] at hP1 hD1
  exact kk H1 locs1 _ rfl ⟨hP1, hD1, hS1⟩
end ROWS
-- contracts
def Pre (L : List Lay) (o : Nat) (as : (Nat → Nat) → List Value) (D : va_G) (cs : Nat → ClassId) (q : Nat → Nat) (σ : St) (sz : Nat) (X : Prop) : Array Value → State → Prop :=
  va_Pc (.ref (q o) :: as q) (fun U => U.heap.size = sz ∧ va_P D vwCl (wd cs L q σ) U.heap ∧ va_K D vwCl (tys cs) U ∧ NW U ∧ va_D (fun _ => True) (wd cs L q σ) ∧ X)
theorem Pre_blind {L : List Lay} {o : Nat} {as : (Nat → Nat) → List Value} {D : va_G} {cs : Nat → ClassId} {q : Nat → Nat} {σ : St} {sz : Nat} {X : Prop} : FrameBlind (Pre L o as D cs q σ sz X) := by
  intro a U g mk h
  obtain ⟨h0, h1, h2, h3, h4, h5, h6⟩ := h
  exact ⟨h0, h1, h2, va_K.moved (u := U) (U := U.calling g mk a) (Vm.Alike.refl U.vm) h3, NW.same rfl h4, h5, h6⟩
def rmO (fr lo : Nat) : Room := { frames := fr, cells := 0, slots := 0, locals := lo }
def MetI (l : Launch) (y : MethodName) (b : ByteArray) (nL : Nat) (ret : FieldType) (fr lo : Nat) (L : List Lay) (o : Nat) (as : (Nat → Nat) → List Value) (w : St → (Int32 → St → Prop) → Prop) : Prop :=
  ∀ (D : va_G) (cs : Nat → ClassId) (q : Nat → Nat) (σ : St) (sz : Nat) (Q : Int32 → St → Prop), Met l y (.code y b nL (some ret) :: gw) (rmO fr lo) (Pre L o as D cs q σ sz (w σ Q)) (va_Qi Q (fun σ' t => va_P D vwCl (wd cs L q σ') t.heap) (Ar L q sz)) 0 0 (Ar L q sz)
def MetL (l : Launch) (y : MethodName) (b : ByteArray) (nL : Nat) (fr lo : Nat) (L : List Lay) (o : Nat) (as : (Nat → Nat) → List Value) (w : St → (Int64 → St → Prop) → Prop) : Prop :=
  ∀ (D : va_G) (cs : Nat → ClassId) (q : Nat → Nat) (σ : St) (sz : Nat) (Q : Int64 → St → Prop), Met l y (.code y b nL (some .long) :: gw) (rmO fr lo) (Pre L o as D cs q σ sz (w σ Q)) (va_Ql Q (fun σ' t => va_P D vwCl (wd cs L q σ') t.heap) (Ar L q sz)) 0 0 (Ar L q sz)
def MetV (l : Launch) (y : MethodName) (b : ByteArray) (nL : Nat) (fr lo : Nat) (L : List Lay) (o : Nat) (as : (Nat → Nat) → List Value) (w : St → (St → Prop) → Prop) : Prop :=
  ∀ (D : va_G) (cs : Nat → ClassId) (q : Nat → Nat) (σ : St) (sz : Nat) (Q : St → Prop), Met l y (.code y b nL none :: gw) (rmO fr lo) (Pre L o as D cs q σ sz (w σ Q)) (va_Qv Q (fun σ' t => va_P D vwCl (wd cs L q σ') t.heap) (Ar L q sz)) 0 0 (Ar L q sz)
def MetS (l : Launch) (y : MethodName) (b : ByteArray) (nL : Nat) (ret : FieldType) (fr lo : Nat) (as : List Value) (w : (Int32 → Prop) → Prop) : Prop :=
  ∀ Q : Int32 → Prop, Met l y (.code y b nL (some ret) :: gw) (rmO fr lo) (va_Pc as (fun U => w Q)) (vp_Si Q) 0 0 (fun _ => False)
section MAKE
variable {l : Launch} {y : MethodName} {b : ByteArray} {nL fr lo : Nat} {L : List Lay} {o : Nat} {as : (Nat → Nat) → List Value} {own : String} {ret : FieldType}
theorem mk_I {w : St → (Int32 → St → Prop) → Prop} (hy : plainName y.cls = true) (ho : y.cls = own) (hn : ∀ q, (lg_sl (.ref (q o) :: as q)).length ≤ nL)
    (body : ∀ {p : Program} {e : Env} {R : Room} {s : State} {m : MethodId} {args : Array Value} {below : List Frame} {meth : Method} {c : Code} {H : Heap} {locs : List Loc} {E : State → Prop} {D : va_G} {cs : Nat → ClassId} {q : Nat → Nat} {σ : St} {ls : Array Slot} {Q : Int32 → St → Prop}, CX p R s m args meth c b nL own fr lo D cs → RI p l e R s m args below meth c b D cs L q ret Q E → OK D cs L q s σ H locs → lv_has ls nL (lv_args 0 (.ref (q o) :: as q)) → w σ Q → W p l e R s m args below meth c H locs 0 0 E (F0 m 0 ls [])) : MetI l y b nL ret fr lo L o as w := by
  intro D cs q σ sz Q
  refine Met.ofW (cc := b) (maxL := nL) (ret := some ret) hy rfl ?_
  intro p e s m args below meth c s₁ B hml hv
  obtain ⟨rfl, hsz, hP, hK, hN, hD0, hw⟩ := hv
  have hts0 := atoms_spec (ws := .code y b nL (some ret) :: gw) B.pre
  have hown : s.vm.findClass y.cls = some m.cls := findClass_of_methodNamed B.named
  rw [ho] at hown
  have hl := lv_entry (.ref (q o) :: as q) (n := nL) (hn q)
  rw [lg_entry_eq]
  generalize (lg_sl (.ref (q o) :: as q) ++ List.replicate (nL - (lg_sl (.ref (q o) :: as q)).length) Slot.unset).toArray = ls at hl ⊢
  subst hsz
  have hlocks := B.notSynchronized
  have hr := B.returns
  have hx := B.exec
  have hb := B.bytes
  refine body ⟨hx, hb, hml, hown, fun w h => hts0 w (List.mem_cons_of_mem _ h), hK, hN, Nat.le_refl fr, Nat.le_refl lo⟩ ?_ ⟨hP, Ar_D hD0, va_S.rf⟩ hl hw
  intro r σ' H locs pc ls' hnar hO hQ hdg
  exact W.zret hx hb hr hnar (fun t ht hW => ⟨⟨r, σ', rfl, hQ, by show va_P D vwCl (wd cs L q σ') t.heap; rw [ht]; exact hO.1⟩, hO.2.2.F ht⟩) hO.2.2.2.2 hdg
theorem mk_L {w : St → (Int64 → St → Prop) → Prop} (hy : plainName y.cls = true) (ho : y.cls = own) (hn : ∀ q, (lg_sl (.ref (q o) :: as q)).length ≤ nL)
    (body : ∀ {p : Program} {e : Env} {R : Room} {s : State} {m : MethodId} {args : Array Value} {below : List Frame} {meth : Method} {c : Code} {H : Heap} {locs : List Loc} {E : State → Prop} {D : va_G} {cs : Nat → ClassId} {q : Nat → Nat} {σ : St} {ls : Array Slot} {Q : Int64 → St → Prop}, CX p R s m args meth c b nL own fr lo D cs → RLx p l e R s m args below meth c b D cs L q Q E → OK D cs L q s σ H locs → lv_has ls nL (lv_args 0 (.ref (q o) :: as q)) → w σ Q → W p l e R s m args below meth c H locs 0 0 E (F0 m 0 ls [])) : MetL l y b nL fr lo L o as w := by
  intro D cs q σ sz Q
  refine Met.ofW (cc := b) (maxL := nL) (ret := some .long) hy rfl ?_
  intro p e s m args below meth c s₁ B hml hv
  obtain ⟨rfl, hsz, hP, hK, hN, hD0, hw⟩ := hv
  have hts0 := atoms_spec (ws := .code y b nL (some .long) :: gw) B.pre
  have hown : s.vm.findClass y.cls = some m.cls := findClass_of_methodNamed B.named
  rw [ho] at hown
  have hl := lv_entry (.ref (q o) :: as q) (n := nL) (hn q)
  rw [lg_entry_eq]
  generalize (lg_sl (.ref (q o) :: as q) ++ List.replicate (nL - (lg_sl (.ref (q o) :: as q)).length) Slot.unset).toArray = ls at hl ⊢
  subst hsz
  have hlocks := B.notSynchronized
  have hr := B.returns
  have hx := B.exec
  have hb := B.bytes
  refine body ⟨hx, hb, hml, hown, fun w h => hts0 w (List.mem_cons_of_mem _ h), hK, hN, Nat.le_refl fr, Nat.le_refl lo⟩ ?_ ⟨hP, Ar_D hD0, va_S.rf⟩ hl hw
  intro r σ' H locs pc ls' hO hQ hdg
  exact W.lret hx hb hr (fun t ht hW => ⟨⟨r, σ', rfl, hQ, by show va_P D vwCl (wd cs L q σ') t.heap; rw [ht]; exact hO.1⟩, hO.2.2.F ht⟩) hO.2.2.2.2 hdg
theorem mk_V {w : St → (St → Prop) → Prop} (hy : plainName y.cls = true) (ho : y.cls = own) (hn : ∀ q, (lg_sl (.ref (q o) :: as q)).length ≤ nL)
    (body : ∀ {p : Program} {e : Env} {R : Room} {s : State} {m : MethodId} {args : Array Value} {below : List Frame} {meth : Method} {c : Code} {H : Heap} {locs : List Loc} {E : State → Prop} {D : va_G} {cs : Nat → ClassId} {q : Nat → Nat} {σ : St} {ls : Array Slot} {Q : St → Prop}, CX p R s m args meth c b nL own fr lo D cs → RV p l e R s m args below meth c b D cs L q Q E → OK D cs L q s σ H locs → lv_has ls nL (lv_args 0 (.ref (q o) :: as q)) → w σ Q → W p l e R s m args below meth c H locs 0 0 E (F0 m 0 ls [])) : MetV l y b nL fr lo L o as w := by
  intro D cs q σ sz Q
  refine Met.ofW (cc := b) (maxL := nL) (ret := none) hy rfl ?_
  intro p e s m args below meth c s₁ B hml hv
  obtain ⟨rfl, hsz, hP, hK, hN, hD0, hw⟩ := hv
  have hts0 := atoms_spec (ws := .code y b nL none :: gw) B.pre
  have hown : s.vm.findClass y.cls = some m.cls := findClass_of_methodNamed B.named
  rw [ho] at hown
  have hl := lv_entry (.ref (q o) :: as q) (n := nL) (hn q)
  rw [lg_entry_eq]
  generalize (lg_sl (.ref (q o) :: as q) ++ List.replicate (nL - (lg_sl (.ref (q o) :: as q)).length) Slot.unset).toArray = ls at hl ⊢
  subst hsz
  have hlocks := B.notSynchronized
  have hr := B.returns
  have hx := B.exec
  have hb := B.bytes
  refine body ⟨hx, hb, hml, hown, fun w h => hts0 w (List.mem_cons_of_mem _ h), hK, hN, Nat.le_refl fr, Nat.le_refl lo⟩ ?_ ⟨hP, Ar_D hD0, va_S.rf⟩ hl hw
  intro σ' H locs pc ls' hO hQ hdg
  exact W.vret hx hb hr (fun t ht hW => ⟨⟨σ', rfl, hQ, by show va_P D vwCl (wd cs L q σ') t.heap; rw [ht]; exact hO.1⟩, hO.2.2.F ht⟩) hO.2.2.2.2 hdg
theorem mk_S {as : List Value} {w : (Int32 → Prop) → Prop} (hy : plainName y.cls = true) (ho : y.cls = own) (hn : (lg_sl as).length ≤ nL)
    (body : ∀ {p : Program} {e : Env} {R : Room} {s : State} {m : MethodId} {args : Array Value} {below : List Frame} {meth : Method} {c : Code} {E : State → Prop} {ls : Array Slot} {Q : Int32 → Prop}, p.tables.exec = Jvm.exec → c.code = b → c.maxLocals = nL → s.vm.findClass own = some m.cls → (∀ w ∈ gw, w.before args s = true) → fr ≤ R.frames → lo ≤ R.locals → RS p l e R s m args below meth c b ret Q E → lv_has ls nL (lv_args 0 as) → w Q → W p l e R s m args below meth c s.heap [] 0 0 E (F0 m 0 ls [])) : MetS l y b nL ret fr lo as w := by
  intro Q
  refine Met.ofW (cc := b) (maxL := nL) (ret := some ret) hy rfl ?_
  intro p e s m args below meth c s₁ B hml hv
  obtain ⟨rfl, hw⟩ := hv
  have hts0 := atoms_spec (ws := .code y b nL (some ret) :: gw) B.pre
  have hown : s.vm.findClass y.cls = some m.cls := findClass_of_methodNamed B.named
  rw [ho] at hown
  have hl := lv_entry as (n := nL) hn
  rw [lg_entry_eq]
  generalize (lg_sl as ++ List.replicate (nL - (lg_sl as).length) Slot.unset).toArray = ls at hl ⊢
  have hlocks := B.notSynchronized
  have hr := B.returns
  have hx := B.exec
  have hb := B.bytes
  refine body hx hb hml hown (fun w h => hts0 w (List.mem_cons_of_mem _ h)) (Nat.le_refl fr) (Nat.le_refl lo) ?_ hl hw
  intro r pc ls' hnar hQ hdg
  exact W.zret hx hb hr hnar (fun t ht hW => ⟨r, rfl, hQ, ht⟩) (fun _ h => by cases h) hdg
end MAKE
section CALLS
variable {p : Program} {l : Launch} {e : Env} {R : Room} {s : State} {m : MethodId} {args : Array Value} {below : List Frame} {meth : Method} {c : Code} {H : Heap} {locs : List Loc} {E : State → Prop}
variable {cc : ByteArray} {nL : Nat} {own : String} {fr lo : Nat} {D : va_G} {cs : Nat → ClassId} {L : List Lay} {q : Nat → Nat} {σ : St} {pc : Nat} {ls : Array Slot} {rest st : List Value} {lv : List (Nat × Value)}
variable {y : MethodName} {b : ByteArray} {nL' fr' lo' o idx n ci : Nat} {fs : List Fdx} {Cn : String} {as : (Nat → Nat) → List Value} {ret : FieldType}
theorem r_callI {w : St → (Int32 → St → Prop) → Prop} {Q : Int32 → St → Prop} (C : CX p R s m args meth c cc nL own fr lo D cs) (O : OK D cs L q s σ H locs) (hl : lv_has ls nL lv) (hM : MetI l y b nL' ret fr' lo' L o as w) (hm : MV own idx Cn y b nL' (some ret) n) (hroom : fr' + 1 ≤ fr ∧ 8 + (nL' + 11) + lo' ≤ lo) (hL : L[o]? = some (.inr (ci, fs))) (hc : (vwCl[ci]?).map (fun z => z.1) = some Cn) (hn : (as q).length = n) (hst : st = (as q).reverse ++ .ref (q o) :: rest) (hrs : (rest.map fun v => v.category).sum ≤ 8) (hw : w σ Q) (hd : decode cc pc = .ok (.invokevirtual idx, 3))
    (kk : ∀ (r : Int32) (σ' : St) (H : Heap) (locs : List Loc), OK D cs L q s σ' H locs → Q r σ' → W p l e R s m args below meth c H locs 0 0 E (F0 m (pc + 3) ls (.int r :: rest))) : W p l e R s m args below meth c H locs 0 0 E (F0 m pc ls st) := by
  obtain ⟨hx, hb, hml, hown, hts, hK, hN, hfr, hlo⟩ := C
  obtain ⟨hP, hD, hS⟩ := O
  have hA : ∀ a, Ar L q H.size a → Ar L q s.heap.size a := Ar_le hD (fun a h => Or.inr (Nat.le_trans hS.1 h))
  obtain ⟨z, hz, hz2⟩ := Option.map_eq_some_iff.mp hc
  have hrec := va_recv (q0 := o) hK hP hz (wd_at hL)
  rw [hz2] at hrec
  refine va_calli (va_runV (As := as q) (rest := rest) ⟨hx, hb, hml, hown, hts⟩ (hM D cs q σ H.size Q) (cwV n hts (gV hm) rfl rfl rfl hm.2.2.2.2.2 ⟨Nat.le_trans hroom.1 hfr, Nat.le_trans hroom.2 hlo⟩) ⟨Pre_blind, hrec, fun U hU hW => ⟨rfl, by rw [hU], by rw [hU]; exact hP, va_K.moved hW.alike hK, NW.warm hW hN, hD.weaken (fun _ _ _ _ => trivial), hw⟩⟩ rfl hn hl.1 hst (lv_room hrs) hd ⟨Nat.zero_le _, Nat.zero_le _⟩) hS (fun a _ h => hA a h) hA (fun r σ' t H1 locs1 ht hvm hq hB hz hk hS1 => ?_)
  exact kk r σ' H1 locs1 ⟨by rw [← ht]; exact hB, wd_D hD, hS1⟩ hq
theorem r_callL {w : St → (Int64 → St → Prop) → Prop} {Q : Int64 → St → Prop} (C : CX p R s m args meth c cc nL own fr lo D cs) (O : OK D cs L q s σ H locs) (hl : lv_has ls nL lv) (hM : MetL l y b nL' fr' lo' L o as w) (hm : MV own idx Cn y b nL' (some .long) n) (hroom : fr' + 1 ≤ fr ∧ 8 + (nL' + 11) + lo' ≤ lo) (hL : L[o]? = some (.inr (ci, fs))) (hc : (vwCl[ci]?).map (fun z => z.1) = some Cn) (hn : (as q).length = n) (hst : st = (as q).reverse ++ .ref (q o) :: rest) (hrs : (rest.map fun v => v.category).sum ≤ 8) (hw : w σ Q) (hd : decode cc pc = .ok (.invokevirtual idx, 3))
    (kk : ∀ (r : Int64) (σ' : St) (H : Heap) (locs : List Loc), OK D cs L q s σ' H locs → Q r σ' → W p l e R s m args below meth c H locs 0 0 E (F0 m (pc + 3) ls (.long r :: rest))) : W p l e R s m args below meth c H locs 0 0 E (F0 m pc ls st) := by
  obtain ⟨hx, hb, hml, hown, hts, hK, hN, hfr, hlo⟩ := C
  obtain ⟨hP, hD, hS⟩ := O
  have hA : ∀ a, Ar L q H.size a → Ar L q s.heap.size a := Ar_le hD (fun a h => Or.inr (Nat.le_trans hS.1 h))
  obtain ⟨z, hz, hz2⟩ := Option.map_eq_some_iff.mp hc
  have hrec := va_recv (q0 := o) hK hP hz (wd_at hL)
  rw [hz2] at hrec
  refine va_calll (va_runV (As := as q) (rest := rest) ⟨hx, hb, hml, hown, hts⟩ (hM D cs q σ H.size Q) (cwV n hts (gV hm) rfl rfl rfl hm.2.2.2.2.2 ⟨Nat.le_trans hroom.1 hfr, Nat.le_trans hroom.2 hlo⟩) ⟨Pre_blind, hrec, fun U hU hW => ⟨rfl, by rw [hU], by rw [hU]; exact hP, va_K.moved hW.alike hK, NW.warm hW hN, hD.weaken (fun _ _ _ _ => trivial), hw⟩⟩ rfl hn hl.1 hst (lv_room hrs) hd ⟨Nat.zero_le _, Nat.zero_le _⟩) hS (fun a _ h => hA a h) hA (fun r σ' t H1 locs1 ht hvm hq hB hz hk hS1 => ?_)
  exact kk r σ' H1 locs1 ⟨by rw [← ht]; exact hB, wd_D hD, hS1⟩ hq
theorem r_callV {w : St → (St → Prop) → Prop} {Q : St → Prop} (C : CX p R s m args meth c cc nL own fr lo D cs) (O : OK D cs L q s σ H locs) (hl : lv_has ls nL lv) (hM : MetV l y b nL' fr' lo' L o as w) (hm : MV own idx Cn y b nL' none n) (hroom : fr' + 1 ≤ fr ∧ 8 + (nL' + 11) + lo' ≤ lo) (hL : L[o]? = some (.inr (ci, fs))) (hc : (vwCl[ci]?).map (fun z => z.1) = some Cn) (hn : (as q).length = n) (hst : st = (as q).reverse ++ .ref (q o) :: rest) (hrs : (rest.map fun v => v.category).sum ≤ 8) (hw : w σ Q) (hd : decode cc pc = .ok (.invokevirtual idx, 3))
    (kk : ∀ (σ' : St) (H : Heap) (locs : List Loc), OK D cs L q s σ' H locs → Q σ' → W p l e R s m args below meth c H locs 0 0 E (F0 m (pc + 3) ls rest)) : W p l e R s m args below meth c H locs 0 0 E (F0 m pc ls st) := by
  obtain ⟨hx, hb, hml, hown, hts, hK, hN, hfr, hlo⟩ := C
  obtain ⟨hP, hD, hS⟩ := O
  have hA : ∀ a, Ar L q H.size a → Ar L q s.heap.size a := Ar_le hD (fun a h => Or.inr (Nat.le_trans hS.1 h))
  obtain ⟨z, hz, hz2⟩ := Option.map_eq_some_iff.mp hc
  have hrec := va_recv (q0 := o) hK hP hz (wd_at hL)
  rw [hz2] at hrec
  refine va_callv (va_runV (As := as q) (rest := rest) ⟨hx, hb, hml, hown, hts⟩ (hM D cs q σ H.size Q) (cwV n hts (gV hm) rfl rfl rfl hm.2.2.2.2.2 ⟨Nat.le_trans hroom.1 hfr, Nat.le_trans hroom.2 hlo⟩) ⟨Pre_blind, hrec, fun U hU hW => ⟨rfl, by rw [hU], by rw [hU]; exact hP, va_K.moved hW.alike hK, NW.warm hW hN, hD.weaken (fun _ _ _ _ => trivial), hw⟩⟩ rfl hn hl.1 hst (lv_room hrs) hd ⟨Nat.zero_le _, Nat.zero_le _⟩) hS (fun a _ h => hA a h) hA (fun σ' t H1 locs1 ht hvm hq hB hz hk hS1 => ?_)
  exact kk σ' H1 locs1 ⟨by rw [← ht]; exact hB, wd_D hD, hS1⟩ hq
theorem r_stat {as : List Value} {w : (Int32 → Prop) → Prop} {Q : Int32 → Prop} (hx : p.tables.exec = Jvm.exec) (hb : c.code = cc) (hml : c.maxLocals = nL) (hown : s.vm.findClass own = some m.cls) (hts : ∀ w ∈ gw, w.before args s = true) (hfr : fr ≤ R.frames) (hlo : lo ≤ R.locals) (hl : lv_has ls nL lv) (hM : MetS l y b nL' ret fr' lo' as w) (hm : MS own idx y b nL' (some ret) n) (hroom : fr' + 1 ≤ fr ∧ 8 + (nL' + 11) + lo' ≤ lo) (hn : as.length = n) (hst : st = as.reverse ++ rest) (hrs : (rest.map fun v => v.category).sum ≤ 8) (hw : w Q) (hd : decode cc pc = .ok (.invokestatic idx, 3))
    (kk : ∀ r : Int32, Q r → W p l e R s m args below meth c H locs 0 0 E (F0 m (pc + 3) ls (.int r :: rest))) : W p l e R s m args below meth c H locs 0 0 E (F0 m pc ls st) :=
  vp_callSi (W.runS (As := as) (rest := rest) ⟨hx, hb, hml, hown, hts⟩ (hM Q) (cwS n hts (gS hm) rfl rfl rfl hm.2.2.2.2 ⟨Nat.le_trans hroom.1 hfr, Nat.le_trans hroom.2 hlo⟩) ⟨fun _ _ _ _ h => h, fun U hU hW => ⟨rfl, hw⟩⟩ rfl hn hl.1 hst (lv_room hrs) hd ⟨Nat.zero_le _, Nat.zero_le _⟩) kk
theorem r_callS {as : List Value} {w : (Int32 → Prop) → Prop} {Q : Int32 → Prop} (C : CX p R s m args meth c cc nL own fr lo D cs) (hl : lv_has ls nL lv) (hM : MetS l y b nL' ret fr' lo' as w) (hm : MS own idx y b nL' (some ret) n) (hroom : fr' + 1 ≤ fr ∧ 8 + (nL' + 11) + lo' ≤ lo) (hn : as.length = n) (hst : st = as.reverse ++ rest) (hrs : (rest.map fun v => v.category).sum ≤ 8) (hw : w Q) (hd : decode cc pc = .ok (.invokestatic idx, 3))
    (kk : ∀ r : Int32, Q r → W p l e R s m args below meth c H locs 0 0 E (F0 m (pc + 3) ls (.int r :: rest))) : W p l e R s m args below meth c H locs 0 0 E (F0 m pc ls st) := by
  obtain ⟨hx, hb, hml, hown, hts, hK, hN, hfr, hlo⟩ := C
  exact r_stat hx hb hml hown hts hfr hlo hl hM hm hroom hn hst hrs hw hd kk
theorem r_callN {as : List Value} {host : String} {w : (Int32 → Prop) → Prop} {Q : Int32 → Prop} (C : CX p R s m args meth c cc nL own fr lo D cs) (hl : lv_has ls nL lv) (hM : MetS l y b nL' ret fr' lo' as w) (hm : MN own idx y host b nL' (some ret) n) (hroom : fr' + 1 ≤ fr ∧ 8 + (nL' + 11) + lo' ≤ lo) (hn : as.length = n) (hst : st = as.reverse ++ rest) (hrs : (rest.map fun v => v.category).sum ≤ 8) (hw : w Q) (hd : decode cc pc = .ok (.invokestatic idx, 3))
    (kk : ∀ r : Int32, Q r → W p l e R s m args below meth c H locs 0 0 E (F0 m (pc + 3) ls (.int r :: rest))) : W p l e R s m args below meth c H locs 0 0 E (F0 m pc ls st) := by
  obtain ⟨hx, hb, hml, hown, hts, hK, hN, hfr, hlo⟩ := C
  have run := va_runSN (locs := locs) (meth := meth) (below := below) (e := e) (H := H) (cells := 0) (slots := 0) (g := F0 m pc ls st) (As := as) (rest := rest) ⟨hx, hb, hml, hown, hts⟩ (hM Q) ⟨va_cnB n hts (gC hm.2.2.2.1) rfl rfl rfl (hN _ hm.1) (hts _ hm.2.2.1) hm.2.2.2.2 ⟨Nat.le_trans hroom.1 hfr, Nat.le_trans hroom.2 hlo⟩, hts _ hm.2.1, trivial⟩ ⟨fun _ _ _ _ h => h, fun U hU hW => ⟨rfl, hw⟩⟩ rfl hn hl.1 hst (lv_room hrs) hd ⟨Nat.zero_le _, Nat.zero_le _⟩
  refine vp_callSi (post := Q) (a := as.toArray) (fun T hT X => ?_) kk
  obtain ⟨v, st₀, t, T', L, h0, X', hL, e1, e2, hq, st⟩ := run T hT X
  exact ⟨v, st₀, t, T', L, h0, X', hL, e1, hq, st⟩
end CALLS
theorem nar_z {r : Int32} (h : r = 0 ∨ r = 1) : narrow .boolean (.int r) = .int r := by
  rcases h with rfl | rfl <;> rfl
theorem sw_out {x : Int32} (hi : Nat) (hhi : hi < 2 ^ 31) (h : ∀ k, k ≤ hi → ¬ x = nI k) : x.toInt < 0 ∨ (hi : Int) < x.toInt := by
  rcases Int.lt_or_le x.toInt 0 with h1 | h1
  · exact Or.inl h1
  · rcases Int.lt_or_le (hi : Int) x.toInt with h2 | h2
    · exact Or.inr h2
    · exfalso
      obtain ⟨j, hj, rfl⟩ := nI_of (x := x) (by rw [Int32.lt_iff_toInt_lt]; exact Int.not_lt.mpr h1)
      rw [nI_toInt hj] at h2
      exact h j (by omega) rfl
end
section
/-! ===== the words of fields and calls, by their places in the tables ===== -/
theorem inX0 : ∀ w ∈ u_ws RX0 TX0 10, w ∈ gw := fun w h => List.mem_filter.mpr ⟨(by decide +kernel : ∀ w ∈ u_ws RX0 TX0 10, w ∈ lw_tbl) w h, (by decide +kernel : ∀ w ∈ u_ws RX0 TX0 10, goodWord w = true) w h⟩
theorem inX1 : ∀ w ∈ u_ws RX1 TX1 8, w ∈ gw := fun w h => List.mem_filter.mpr ⟨(by decide +kernel : ∀ w ∈ u_ws RX1 TX1 8, w ∈ lw_tbl) w h, (by decide +kernel : ∀ w ∈ u_ws RX1 TX1 8, goodWord w = true) w h⟩
theorem inX2 : ∀ w ∈ u_ws RX2 TX2 7, w ∈ gw := fun w h => List.mem_filter.mpr ⟨(by decide +kernel : ∀ w ∈ u_ws RX2 TX2 7, w ∈ lw_tbl) w h, (by decide +kernel : ∀ w ∈ u_ws RX2 TX2 7, goodWord w = true) w h⟩
theorem inX3 : ∀ w ∈ u_ws RX3 TX3 8, w ∈ gw := fun w h => List.mem_filter.mpr ⟨(by decide +kernel : ∀ w ∈ u_ws RX3 TX3 8, w ∈ lw_tbl) w h, (by decide +kernel : ∀ w ∈ u_ws RX3 TX3 8, goodWord w = true) w h⟩
theorem inX4 : ∀ w ∈ u_ws RX4 TX4 5, w ∈ gw := fun w h => List.mem_filter.mpr ⟨(by decide +kernel : ∀ w ∈ u_ws RX4 TX4 5, w ∈ lw_tbl) w h, (by decide +kernel : ∀ w ∈ u_ws RX4 TX4 5, goodWord w = true) w h⟩
theorem inX5 : ∀ w ∈ u_ws RX5 TX5 13, w ∈ gw := fun w h => List.mem_filter.mpr ⟨(by decide +kernel : ∀ w ∈ u_ws RX5 TX5 13, w ∈ lw_tbl) w h, (by decide +kernel : ∀ w ∈ u_ws RX5 TX5 13, goodWord w = true) w h⟩
theorem inX6 : ∀ w ∈ u_ws RX6 TX6 4, w ∈ gw := fun w h => List.mem_filter.mpr ⟨(by decide +kernel : ∀ w ∈ u_ws RX6 TX6 4, w ∈ lw_tbl) w h, (by decide +kernel : ∀ w ∈ u_ws RX6 TX6 4, goodWord w = true) w h⟩
theorem inX7 : ∀ w ∈ u_ws RX7 TX7 4, w ∈ gw := fun w h => List.mem_filter.mpr ⟨(by decide +kernel : ∀ w ∈ u_ws RX7 TX7 4, w ∈ lw_tbl) w h, (by decide +kernel : ∀ w ∈ u_ws RX7 TX7 4, goodWord w = true) w h⟩
theorem inX8 : ∀ w ∈ u_ws RX8 TX8 2, w ∈ gw := fun w h => List.mem_filter.mpr ⟨(by decide +kernel : ∀ w ∈ u_ws RX8 TX8 2, w ∈ lw_tbl) w h, (by decide +kernel : ∀ w ∈ u_ws RX8 TX8 2, goodWord w = true) w h⟩
theorem inX9 : ∀ w ∈ u_ws RX9 TX9 1, w ∈ gw := fun w h => List.mem_filter.mpr ⟨(by decide +kernel : ∀ w ∈ u_ws RX9 TX9 1, w ∈ lw_tbl) w h, (by decide +kernel : ∀ w ∈ u_ws RX9 TX9 1, goodWord w = true) w h⟩
theorem inX10 : ∀ w ∈ u_ws RX10 TX10 10, w ∈ gw := fun w h => List.mem_filter.mpr ⟨(by decide +kernel : ∀ w ∈ u_ws RX10 TX10 10, w ∈ lw_tbl) w h, (by decide +kernel : ∀ w ∈ u_ws RX10 TX10 10, goodWord w = true) w h⟩
theorem inX11 : ∀ w ∈ u_ws RX11 TX11 47, w ∈ gw := fun w h => List.mem_filter.mpr ⟨(by decide +kernel : ∀ w ∈ u_ws RX11 TX11 47, w ∈ lw_tbl) w h, (by decide +kernel : ∀ w ∈ u_ws RX11 TX11 47, goodWord w = true) w h⟩
theorem fX8_9 : FL RX8 9 8 0 := ⟨RX8, TX8, 2, rfl, inX8, by decide, (gw_of (i := 68) (by decide +kernel) (by decide +kernel))⟩
theorem fX8_13 : FL RX8 13 8 1 := ⟨RX8, TX8, 2, rfl, inX8, by decide, (gw_of (i := 69) (by decide +kernel) (by decide +kernel))⟩
theorem pX8_13 : FP RX8 13 8 1 .int := ⟨RX8, TX8, 2, tyX8, rfl, inX8, by decide, (gw_of (i := 69) (by decide +kernel) (by decide +kernel)), tyX8_ok, nmX8, rfl, by decide +kernel⟩
theorem fX2_9 : FL RX2 9 2 0 := ⟨RX2, TX2, 7, rfl, inX2, by decide, (gw_of (i := 82) (by decide +kernel) (by decide +kernel))⟩
theorem fX2_15 : FL RX2 15 2 1 := ⟨RX2, TX2, 7, rfl, inX2, by decide, (gw_of (i := 83) (by decide +kernel) (by decide +kernel))⟩
theorem fX2_18 : FL RX2 18 2 2 := ⟨RX2, TX2, 7, rfl, inX2, by decide, (gw_of (i := 84) (by decide +kernel) (by decide +kernel))⟩
theorem fX2_21 : FL RX2 21 2 3 := ⟨RX2, TX2, 7, rfl, inX2, by decide, (gw_of (i := 85) (by decide +kernel) (by decide +kernel))⟩
theorem fX2_24 : FL RX2 24 2 4 := ⟨RX2, TX2, 7, rfl, inX2, by decide, (gw_of (i := 86) (by decide +kernel) (by decide +kernel))⟩
theorem pX2_24 : FP RX2 24 2 4 .int := ⟨RX2, TX2, 7, tyX2, rfl, inX2, by decide, (gw_of (i := 86) (by decide +kernel) (by decide +kernel)), tyX2_ok, nmX2, rfl, by decide +kernel⟩
theorem fX2_28 : FL RX2 28 2 5 := ⟨RX2, TX2, 7, rfl, inX2, by decide, (gw_of (i := 87) (by decide +kernel) (by decide +kernel))⟩
theorem pX2_28 : FP RX2 28 2 5 .int := ⟨RX2, TX2, 7, tyX2, rfl, inX2, by decide, (gw_of (i := 87) (by decide +kernel) (by decide +kernel)), tyX2_ok, nmX2, rfl, by decide +kernel⟩
theorem fX2_31 : FL RX2 31 2 6 := ⟨RX2, TX2, 7, rfl, inX2, by decide, (gw_of (i := 88) (by decide +kernel) (by decide +kernel))⟩
theorem pX2_31 : FP RX2 31 2 6 .int := ⟨RX2, TX2, 7, tyX2, rfl, inX2, by decide, (gw_of (i := 88) (by decide +kernel) (by decide +kernel)), tyX2_ok, nmX2, rfl, by decide +kernel⟩
theorem fX9_9 : FL RX9 9 9 0 := ⟨RX9, TX9, 1, rfl, inX9, by decide, (gw_of (i := 110) (by decide +kernel) (by decide +kernel))⟩
theorem fX4_11 : FL RX4 11 4 0 := ⟨RX4, TX4, 5, rfl, inX4, by decide, (gw_of (i := 120) (by decide +kernel) (by decide +kernel))⟩
theorem fX4_15 : FL RX4 15 4 1 := ⟨RX4, TX4, 5, rfl, inX4, by decide, (gw_of (i := 121) (by decide +kernel) (by decide +kernel))⟩
theorem fX4_18 : FL RX4 18 4 2 := ⟨RX4, TX4, 5, rfl, inX4, by decide, (gw_of (i := 122) (by decide +kernel) (by decide +kernel))⟩
theorem fX4_21 : FL RX4 21 4 3 := ⟨RX4, TX4, 5, rfl, inX4, by decide, (gw_of (i := 123) (by decide +kernel) (by decide +kernel))⟩
theorem fX4_24 : FL RX4 24 4 4 := ⟨RX4, TX4, 5, rfl, inX4, by decide, (gw_of (i := 124) (by decide +kernel) (by decide +kernel))⟩
theorem pX4_24 : FP RX4 24 4 4 .int := ⟨RX4, TX4, 5, tyX4, rfl, inX4, by decide, (gw_of (i := 124) (by decide +kernel) (by decide +kernel)), tyX4_ok, nmX4, rfl, by decide +kernel⟩
theorem fX1_11 : FL RX1 11 1 0 := ⟨RX1, TX1, 8, rfl, inX1, by decide, (gw_of (i := 142) (by decide +kernel) (by decide +kernel))⟩
theorem fX1_15 : FL RX1 15 1 1 := ⟨RX1, TX1, 8, rfl, inX1, by decide, (gw_of (i := 143) (by decide +kernel) (by decide +kernel))⟩
theorem fX1_18 : FL RX1 18 1 2 := ⟨RX1, TX1, 8, rfl, inX1, by decide, (gw_of (i := 144) (by decide +kernel) (by decide +kernel))⟩
theorem fX1_21 : FL RX1 21 1 3 := ⟨RX1, TX1, 8, rfl, inX1, by decide, (gw_of (i := 145) (by decide +kernel) (by decide +kernel))⟩
theorem fX1_24 : FL RX1 24 1 4 := ⟨RX1, TX1, 8, rfl, inX1, by decide, (gw_of (i := 146) (by decide +kernel) (by decide +kernel))⟩
theorem fX1_28 : FL RX1 28 1 5 := ⟨RX1, TX1, 8, rfl, inX1, by decide, (gw_of (i := 147) (by decide +kernel) (by decide +kernel))⟩
theorem fX1_31 : FL RX1 31 1 6 := ⟨RX1, TX1, 8, rfl, inX1, by decide, (gw_of (i := 148) (by decide +kernel) (by decide +kernel))⟩
theorem pX1_31 : FP RX1 31 1 6 .int := ⟨RX1, TX1, 8, tyX1, rfl, inX1, by decide, (gw_of (i := 148) (by decide +kernel) (by decide +kernel)), tyX1_ok, nmX1, rfl, by decide +kernel⟩
theorem fX1_35 : FL RX1 35 1 7 := ⟨RX1, TX1, 8, rfl, inX1, by decide, (gw_of (i := 149) (by decide +kernel) (by decide +kernel))⟩
theorem pX1_35 : FP RX1 35 1 7 .int := ⟨RX1, TX1, 8, tyX1, rfl, inX1, by decide, (gw_of (i := 149) (by decide +kernel) (by decide +kernel)), tyX1_ok, nmX1, rfl, by decide +kernel⟩
theorem fX7_11 : FL RX7 11 7 0 := ⟨RX7, TX7, 4, rfl, inX7, by decide, (gw_of (i := 174) (by decide +kernel) (by decide +kernel))⟩
theorem fX7_15 : FL RX7 15 7 1 := ⟨RX7, TX7, 4, rfl, inX7, by decide, (gw_of (i := 175) (by decide +kernel) (by decide +kernel))⟩
theorem fX7_18 : FL RX7 18 7 2 := ⟨RX7, TX7, 4, rfl, inX7, by decide, (gw_of (i := 176) (by decide +kernel) (by decide +kernel))⟩
theorem fX7_21 : FL RX7 21 7 3 := ⟨RX7, TX7, 4, rfl, inX7, by decide, (gw_of (i := 177) (by decide +kernel) (by decide +kernel))⟩
theorem pX7_21 : FP RX7 21 7 3 .int := ⟨RX7, TX7, 4, tyX7, rfl, inX7, by decide, (gw_of (i := 177) (by decide +kernel) (by decide +kernel)), tyX7_ok, nmX7, rfl, by decide +kernel⟩
theorem fX6_17 : FL RX6 17 6 0 := ⟨RX6, TX6, 4, rfl, inX6, by decide, (gw_of (i := 193) (by decide +kernel) (by decide +kernel))⟩
theorem fX6_21 : FL RX6 21 6 1 := ⟨RX6, TX6, 4, rfl, inX6, by decide, (gw_of (i := 194) (by decide +kernel) (by decide +kernel))⟩
theorem fX6_25 : FL RX6 25 6 2 := ⟨RX6, TX6, 4, rfl, inX6, by decide, (gw_of (i := 195) (by decide +kernel) (by decide +kernel))⟩
theorem fX6_11 : FL RX6 11 6 3 := ⟨RX6, TX6, 4, rfl, inX6, by decide, (gw_of (i := 196) (by decide +kernel) (by decide +kernel))⟩
theorem fX0_9 : FL RX0 9 0 0 := ⟨RX0, TX0, 10, rfl, inX0, by decide, (gw_of (i := 214) (by decide +kernel) (by decide +kernel))⟩
theorem fX0_15 : FL RX0 15 0 1 := ⟨RX0, TX0, 10, rfl, inX0, by decide, (gw_of (i := 215) (by decide +kernel) (by decide +kernel))⟩
theorem fX0_19 : FL RX0 19 0 2 := ⟨RX0, TX0, 10, rfl, inX0, by decide, (gw_of (i := 216) (by decide +kernel) (by decide +kernel))⟩
theorem fX0_23 : FL RX0 23 0 3 := ⟨RX0, TX0, 10, rfl, inX0, by decide, (gw_of (i := 217) (by decide +kernel) (by decide +kernel))⟩
theorem fX0_27 : FL RX0 27 0 4 := ⟨RX0, TX0, 10, rfl, inX0, by decide, (gw_of (i := 218) (by decide +kernel) (by decide +kernel))⟩
theorem fX0_37 : FL RX0 37 0 5 := ⟨RX0, TX0, 10, rfl, inX0, by decide, (gw_of (i := 219) (by decide +kernel) (by decide +kernel))⟩
theorem pX0_37 : FP RX0 37 0 5 .int := ⟨RX0, TX0, 10, tyX0, rfl, inX0, by decide, (gw_of (i := 219) (by decide +kernel) (by decide +kernel)), tyX0_ok, nmX0, rfl, by decide +kernel⟩
theorem fX0_44 : FL RX0 44 0 6 := ⟨RX0, TX0, 10, rfl, inX0, by decide, (gw_of (i := 220) (by decide +kernel) (by decide +kernel))⟩
theorem pX0_44 : FP RX0 44 0 6 .int := ⟨RX0, TX0, 10, tyX0, rfl, inX0, by decide, (gw_of (i := 220) (by decide +kernel) (by decide +kernel)), tyX0_ok, nmX0, rfl, by decide +kernel⟩
theorem fX0_54 : FL RX0 54 0 7 := ⟨RX0, TX0, 10, rfl, inX0, by decide, (gw_of (i := 221) (by decide +kernel) (by decide +kernel))⟩
theorem pX0_54 : FP RX0 54 0 7 .int := ⟨RX0, TX0, 10, tyX0, rfl, inX0, by decide, (gw_of (i := 221) (by decide +kernel) (by decide +kernel)), tyX0_ok, nmX0, rfl, by decide +kernel⟩
theorem fX0_57 : FL RX0 57 0 8 := ⟨RX0, TX0, 10, rfl, inX0, by decide, (gw_of (i := 222) (by decide +kernel) (by decide +kernel))⟩
theorem pX0_57 : FP RX0 57 0 8 .int := ⟨RX0, TX0, 10, tyX0, rfl, inX0, by decide, (gw_of (i := 222) (by decide +kernel) (by decide +kernel)), tyX0_ok, nmX0, rfl, by decide +kernel⟩
theorem fX0_60 : FL RX0 60 0 9 := ⟨RX0, TX0, 10, rfl, inX0, by decide, (gw_of (i := 223) (by decide +kernel) (by decide +kernel))⟩
theorem pX0_60 : FP RX0 60 0 9 .int := ⟨RX0, TX0, 10, tyX0, rfl, inX0, by decide, (gw_of (i := 223) (by decide +kernel) (by decide +kernel)), tyX0_ok, nmX0, rfl, by decide +kernel⟩
theorem fX5_36 : FL RX5 36 5 0 := ⟨RX5, TX5, 13, rfl, inX5, by decide, (gw_of (i := 249) (by decide +kernel) (by decide +kernel))⟩
theorem fX5_40 : FL RX5 40 5 1 := ⟨RX5, TX5, 13, rfl, inX5, by decide, (gw_of (i := 250) (by decide +kernel) (by decide +kernel))⟩
theorem fX5_44 : FL RX5 44 5 2 := ⟨RX5, TX5, 13, rfl, inX5, by decide, (gw_of (i := 251) (by decide +kernel) (by decide +kernel))⟩
theorem fX5_48 : FL RX5 48 5 3 := ⟨RX5, TX5, 13, rfl, inX5, by decide, (gw_of (i := 252) (by decide +kernel) (by decide +kernel))⟩
theorem fX5_13 : FL RX5 13 5 4 := ⟨RX5, TX5, 13, rfl, inX5, by decide, (gw_of (i := 253) (by decide +kernel) (by decide +kernel))⟩
theorem fX5_17 : FL RX5 17 5 5 := ⟨RX5, TX5, 13, rfl, inX5, by decide, (gw_of (i := 254) (by decide +kernel) (by decide +kernel))⟩
theorem fX5_21 : FL RX5 21 5 6 := ⟨RX5, TX5, 13, rfl, inX5, by decide, (gw_of (i := 255) (by decide +kernel) (by decide +kernel))⟩
theorem fX5_24 : FL RX5 24 5 7 := ⟨RX5, TX5, 13, rfl, inX5, by decide, (gw_of (i := 256) (by decide +kernel) (by decide +kernel))⟩
theorem fX5_27 : FL RX5 27 5 8 := ⟨RX5, TX5, 13, rfl, inX5, by decide, (gw_of (i := 257) (by decide +kernel) (by decide +kernel))⟩
theorem fX5_30 : FL RX5 30 5 9 := ⟨RX5, TX5, 13, rfl, inX5, by decide, (gw_of (i := 258) (by decide +kernel) (by decide +kernel))⟩
theorem fX5_33 : FL RX5 33 5 10 := ⟨RX5, TX5, 13, rfl, inX5, by decide, (gw_of (i := 259) (by decide +kernel) (by decide +kernel))⟩
theorem fX5_77 : FL RX5 77 5 11 := ⟨RX5, TX5, 13, rfl, inX5, by decide, (gw_of (i := 260) (by decide +kernel) (by decide +kernel))⟩
theorem pX5_77 : FP RX5 77 5 11 .int := ⟨RX5, TX5, 13, tyX5, rfl, inX5, by decide, (gw_of (i := 260) (by decide +kernel) (by decide +kernel)), tyX5_ok, nmX5, rfl, by decide +kernel⟩
theorem fX5_54 : FL RX5 54 5 12 := ⟨RX5, TX5, 13, rfl, inX5, by decide, (gw_of (i := 261) (by decide +kernel) (by decide +kernel))⟩
theorem pX5_54 : FP RX5 54 5 12 .long := ⟨RX5, TX5, 13, tyX5, rfl, inX5, by decide, (gw_of (i := 261) (by decide +kernel) (by decide +kernel)), tyX5_ok, nmX5, rfl, by decide +kernel⟩
theorem fX3_11 : FL RX3 11 3 0 := ⟨RX3, TX3, 8, rfl, inX3, by decide, (gw_of (i := 296) (by decide +kernel) (by decide +kernel))⟩
theorem fX3_15 : FL RX3 15 3 1 := ⟨RX3, TX3, 8, rfl, inX3, by decide, (gw_of (i := 297) (by decide +kernel) (by decide +kernel))⟩
theorem fX3_18 : FL RX3 18 3 2 := ⟨RX3, TX3, 8, rfl, inX3, by decide, (gw_of (i := 298) (by decide +kernel) (by decide +kernel))⟩
theorem fX3_21 : FL RX3 21 3 3 := ⟨RX3, TX3, 8, rfl, inX3, by decide, (gw_of (i := 299) (by decide +kernel) (by decide +kernel))⟩
theorem fX3_24 : FL RX3 24 3 4 := ⟨RX3, TX3, 8, rfl, inX3, by decide, (gw_of (i := 300) (by decide +kernel) (by decide +kernel))⟩
theorem fX3_27 : FL RX3 27 3 5 := ⟨RX3, TX3, 8, rfl, inX3, by decide, (gw_of (i := 301) (by decide +kernel) (by decide +kernel))⟩
theorem fX3_30 : FL RX3 30 3 6 := ⟨RX3, TX3, 8, rfl, inX3, by decide, (gw_of (i := 302) (by decide +kernel) (by decide +kernel))⟩
theorem fX3_33 : FL RX3 33 3 7 := ⟨RX3, TX3, 8, rfl, inX3, by decide, (gw_of (i := 303) (by decide +kernel) (by decide +kernel))⟩
theorem pX3_33 : FP RX3 33 3 7 .int := ⟨RX3, TX3, 8, tyX3, rfl, inX3, by decide, (gw_of (i := 303) (by decide +kernel) (by decide +kernel)), tyX3_ok, nmX3, rfl, by decide +kernel⟩
theorem fX10_12 : FL RX10 12 10 0 := ⟨RX10, TX10, 10, rfl, inX10, by decide, (gw_of (i := 321) (by decide +kernel) (by decide +kernel))⟩
theorem fX10_19 : FL RX10 19 10 1 := ⟨RX10, TX10, 10, rfl, inX10, by decide, (gw_of (i := 322) (by decide +kernel) (by decide +kernel))⟩
theorem fX10_26 : FL RX10 26 10 2 := ⟨RX10, TX10, 10, rfl, inX10, by decide, (gw_of (i := 323) (by decide +kernel) (by decide +kernel))⟩
theorem fX10_33 : FL RX10 33 10 3 := ⟨RX10, TX10, 10, rfl, inX10, by decide, (gw_of (i := 324) (by decide +kernel) (by decide +kernel))⟩
theorem fX10_40 : FL RX10 40 10 4 := ⟨RX10, TX10, 10, rfl, inX10, by decide, (gw_of (i := 325) (by decide +kernel) (by decide +kernel))⟩
theorem fX10_47 : FL RX10 47 10 5 := ⟨RX10, TX10, 10, rfl, inX10, by decide, (gw_of (i := 326) (by decide +kernel) (by decide +kernel))⟩
theorem fX10_56 : FL RX10 56 10 6 := ⟨RX10, TX10, 10, rfl, inX10, by decide, (gw_of (i := 327) (by decide +kernel) (by decide +kernel))⟩
theorem fX10_70 : FL RX10 70 10 7 := ⟨RX10, TX10, 10, rfl, inX10, by decide, (gw_of (i := 328) (by decide +kernel) (by decide +kernel))⟩
theorem fX10_77 : FL RX10 77 10 8 := ⟨RX10, TX10, 10, rfl, inX10, by decide, (gw_of (i := 329) (by decide +kernel) (by decide +kernel))⟩
theorem fX10_81 : FL RX10 81 10 9 := ⟨RX10, TX10, 10, rfl, inX10, by decide, (gw_of (i := 330) (by decide +kernel) (by decide +kernel))⟩
theorem pX10_81 : FP RX10 81 10 9 .int := ⟨RX10, TX10, 10, tyX10, rfl, inX10, by decide, (gw_of (i := 330) (by decide +kernel) (by decide +kernel)), tyX10_ok, nmX10, rfl, by decide +kernel⟩
theorem fX11_7 : FL RX11 7 11 0 := ⟨RX11, TX11, 47, rfl, inX11, by decide, (gw_of (i := 826) (by decide +kernel) (by decide +kernel))⟩
theorem fX11_123 : FL RX11 123 11 1 := ⟨RX11, TX11, 47, rfl, inX11, by decide, (gw_of (i := 827) (by decide +kernel) (by decide +kernel))⟩
theorem pX11_123 : FP RX11 123 11 1 .int := ⟨RX11, TX11, 47, tyX11, rfl, inX11, by decide, (gw_of (i := 827) (by decide +kernel) (by decide +kernel)), tyX11_ok, nmX11, rfl, by decide +kernel⟩
theorem fX11_182 : FL RX11 182 11 2 := ⟨RX11, TX11, 47, rfl, inX11, by decide, (gw_of (i := 828) (by decide +kernel) (by decide +kernel))⟩
theorem pX11_182 : FP RX11 182 11 2 .int := ⟨RX11, TX11, 47, tyX11, rfl, inX11, by decide, (gw_of (i := 828) (by decide +kernel) (by decide +kernel)), tyX11_ok, nmX11, rfl, by decide +kernel⟩
theorem fX11_13 : FL RX11 13 11 3 := ⟨RX11, TX11, 47, rfl, inX11, by decide, (gw_of (i := 829) (by decide +kernel) (by decide +kernel))⟩
theorem fX11_17 : FL RX11 17 11 4 := ⟨RX11, TX11, 47, rfl, inX11, by decide, (gw_of (i := 830) (by decide +kernel) (by decide +kernel))⟩
theorem fX11_21 : FL RX11 21 11 5 := ⟨RX11, TX11, 47, rfl, inX11, by decide, (gw_of (i := 831) (by decide +kernel) (by decide +kernel))⟩
theorem fX11_131 : FL RX11 131 11 6 := ⟨RX11, TX11, 47, rfl, inX11, by decide, (gw_of (i := 832) (by decide +kernel) (by decide +kernel))⟩
theorem pX11_131 : FP RX11 131 11 6 .int := ⟨RX11, TX11, 47, tyX11, rfl, inX11, by decide, (gw_of (i := 832) (by decide +kernel) (by decide +kernel)), tyX11_ok, nmX11, rfl, by decide +kernel⟩
theorem fX11_134 : FL RX11 134 11 7 := ⟨RX11, TX11, 47, rfl, inX11, by decide, (gw_of (i := 833) (by decide +kernel) (by decide +kernel))⟩
theorem pX11_134 : FP RX11 134 11 7 .int := ⟨RX11, TX11, 47, tyX11, rfl, inX11, by decide, (gw_of (i := 833) (by decide +kernel) (by decide +kernel)), tyX11_ok, nmX11, rfl, by decide +kernel⟩
theorem fX11_24 : FL RX11 24 11 8 := ⟨RX11, TX11, 47, rfl, inX11, by decide, (gw_of (i := 834) (by decide +kernel) (by decide +kernel))⟩
theorem fX11_162 : FL RX11 162 11 9 := ⟨RX11, TX11, 47, rfl, inX11, by decide, (gw_of (i := 835) (by decide +kernel) (by decide +kernel))⟩
theorem pX11_162 : FP RX11 162 11 9 .int := ⟨RX11, TX11, 47, tyX11, rfl, inX11, by decide, (gw_of (i := 835) (by decide +kernel) (by decide +kernel)), tyX11_ok, nmX11, rfl, by decide +kernel⟩
theorem fX11_27 : FL RX11 27 11 10 := ⟨RX11, TX11, 47, rfl, inX11, by decide, (gw_of (i := 836) (by decide +kernel) (by decide +kernel))⟩
theorem fX11_30 : FL RX11 30 11 11 := ⟨RX11, TX11, 47, rfl, inX11, by decide, (gw_of (i := 837) (by decide +kernel) (by decide +kernel))⟩
theorem fX11_33 : FL RX11 33 11 12 := ⟨RX11, TX11, 47, rfl, inX11, by decide, (gw_of (i := 838) (by decide +kernel) (by decide +kernel))⟩
theorem fX11_36 : FL RX11 36 11 13 := ⟨RX11, TX11, 47, rfl, inX11, by decide, (gw_of (i := 839) (by decide +kernel) (by decide +kernel))⟩
theorem fX11_159 : FL RX11 159 11 14 := ⟨RX11, TX11, 47, rfl, inX11, by decide, (gw_of (i := 840) (by decide +kernel) (by decide +kernel))⟩
theorem pX11_159 : FP RX11 159 11 14 .int := ⟨RX11, TX11, 47, tyX11, rfl, inX11, by decide, (gw_of (i := 840) (by decide +kernel) (by decide +kernel)), tyX11_ok, nmX11, rfl, by decide +kernel⟩
theorem fX11_39 : FL RX11 39 11 15 := ⟨RX11, TX11, 47, rfl, inX11, by decide, (gw_of (i := 841) (by decide +kernel) (by decide +kernel))⟩
theorem fX11_42 : FL RX11 42 11 16 := ⟨RX11, TX11, 47, rfl, inX11, by decide, (gw_of (i := 842) (by decide +kernel) (by decide +kernel))⟩
theorem fX11_45 : FL RX11 45 11 17 := ⟨RX11, TX11, 47, rfl, inX11, by decide, (gw_of (i := 843) (by decide +kernel) (by decide +kernel))⟩
theorem fX11_48 : FL RX11 48 11 18 := ⟨RX11, TX11, 47, rfl, inX11, by decide, (gw_of (i := 844) (by decide +kernel) (by decide +kernel))⟩
theorem fX11_51 : FL RX11 51 11 19 := ⟨RX11, TX11, 47, rfl, inX11, by decide, (gw_of (i := 845) (by decide +kernel) (by decide +kernel))⟩
theorem fX11_54 : FL RX11 54 11 20 := ⟨RX11, TX11, 47, rfl, inX11, by decide, (gw_of (i := 846) (by decide +kernel) (by decide +kernel))⟩
theorem fX11_179 : FL RX11 179 11 21 := ⟨RX11, TX11, 47, rfl, inX11, by decide, (gw_of (i := 847) (by decide +kernel) (by decide +kernel))⟩
theorem pX11_179 : FP RX11 179 11 21 .int := ⟨RX11, TX11, 47, tyX11, rfl, inX11, by decide, (gw_of (i := 847) (by decide +kernel) (by decide +kernel)), tyX11_ok, nmX11, rfl, by decide +kernel⟩
theorem fX11_57 : FL RX11 57 11 22 := ⟨RX11, TX11, 47, rfl, inX11, by decide, (gw_of (i := 848) (by decide +kernel) (by decide +kernel))⟩
theorem fX11_60 : FL RX11 60 11 23 := ⟨RX11, TX11, 47, rfl, inX11, by decide, (gw_of (i := 849) (by decide +kernel) (by decide +kernel))⟩
theorem fX11_63 : FL RX11 63 11 24 := ⟨RX11, TX11, 47, rfl, inX11, by decide, (gw_of (i := 850) (by decide +kernel) (by decide +kernel))⟩
theorem fX11_185 : FL RX11 185 11 25 := ⟨RX11, TX11, 47, rfl, inX11, by decide, (gw_of (i := 851) (by decide +kernel) (by decide +kernel))⟩
theorem pX11_185 : FP RX11 185 11 25 .int := ⟨RX11, TX11, 47, tyX11, rfl, inX11, by decide, (gw_of (i := 851) (by decide +kernel) (by decide +kernel)), tyX11_ok, nmX11, rfl, by decide +kernel⟩
theorem fX11_66 : FL RX11 66 11 26 := ⟨RX11, TX11, 47, rfl, inX11, by decide, (gw_of (i := 852) (by decide +kernel) (by decide +kernel))⟩
theorem fX11_69 : FL RX11 69 11 27 := ⟨RX11, TX11, 47, rfl, inX11, by decide, (gw_of (i := 853) (by decide +kernel) (by decide +kernel))⟩
theorem fX11_72 : FL RX11 72 11 28 := ⟨RX11, TX11, 47, rfl, inX11, by decide, (gw_of (i := 854) (by decide +kernel) (by decide +kernel))⟩
theorem fX11_75 : FL RX11 75 11 29 := ⟨RX11, TX11, 47, rfl, inX11, by decide, (gw_of (i := 855) (by decide +kernel) (by decide +kernel))⟩
theorem fX11_78 : FL RX11 78 11 30 := ⟨RX11, TX11, 47, rfl, inX11, by decide, (gw_of (i := 856) (by decide +kernel) (by decide +kernel))⟩
theorem fX11_81 : FL RX11 81 11 31 := ⟨RX11, TX11, 47, rfl, inX11, by decide, (gw_of (i := 857) (by decide +kernel) (by decide +kernel))⟩
theorem fX11_84 : FL RX11 84 11 32 := ⟨RX11, TX11, 47, rfl, inX11, by decide, (gw_of (i := 858) (by decide +kernel) (by decide +kernel))⟩
theorem fX11_87 : FL RX11 87 11 33 := ⟨RX11, TX11, 47, rfl, inX11, by decide, (gw_of (i := 859) (by decide +kernel) (by decide +kernel))⟩
theorem fX11_188 : FL RX11 188 11 34 := ⟨RX11, TX11, 47, rfl, inX11, by decide, (gw_of (i := 860) (by decide +kernel) (by decide +kernel))⟩
theorem pX11_188 : FP RX11 188 11 34 .int := ⟨RX11, TX11, 47, tyX11, rfl, inX11, by decide, (gw_of (i := 860) (by decide +kernel) (by decide +kernel)), tyX11_ok, nmX11, rfl, by decide +kernel⟩
theorem fX11_90 : FL RX11 90 11 35 := ⟨RX11, TX11, 47, rfl, inX11, by decide, (gw_of (i := 861) (by decide +kernel) (by decide +kernel))⟩
theorem fX11_191 : FL RX11 191 11 36 := ⟨RX11, TX11, 47, rfl, inX11, by decide, (gw_of (i := 862) (by decide +kernel) (by decide +kernel))⟩
theorem pX11_191 : FP RX11 191 11 36 .int := ⟨RX11, TX11, 47, tyX11, rfl, inX11, by decide, (gw_of (i := 862) (by decide +kernel) (by decide +kernel)), tyX11_ok, nmX11, rfl, by decide +kernel⟩
theorem fX11_93 : FL RX11 93 11 37 := ⟨RX11, TX11, 47, rfl, inX11, by decide, (gw_of (i := 863) (by decide +kernel) (by decide +kernel))⟩
theorem fX11_96 : FL RX11 96 11 38 := ⟨RX11, TX11, 47, rfl, inX11, by decide, (gw_of (i := 864) (by decide +kernel) (by decide +kernel))⟩
theorem fX11_99 : FL RX11 99 11 39 := ⟨RX11, TX11, 47, rfl, inX11, by decide, (gw_of (i := 865) (by decide +kernel) (by decide +kernel))⟩
theorem fX11_102 : FL RX11 102 11 40 := ⟨RX11, TX11, 47, rfl, inX11, by decide, (gw_of (i := 866) (by decide +kernel) (by decide +kernel))⟩
theorem fX11_105 : FL RX11 105 11 41 := ⟨RX11, TX11, 47, rfl, inX11, by decide, (gw_of (i := 867) (by decide +kernel) (by decide +kernel))⟩
theorem fX11_108 : FL RX11 108 11 42 := ⟨RX11, TX11, 47, rfl, inX11, by decide, (gw_of (i := 868) (by decide +kernel) (by decide +kernel))⟩
theorem fX11_111 : FL RX11 111 11 43 := ⟨RX11, TX11, 47, rfl, inX11, by decide, (gw_of (i := 869) (by decide +kernel) (by decide +kernel))⟩
theorem fX11_114 : FL RX11 114 11 44 := ⟨RX11, TX11, 47, rfl, inX11, by decide, (gw_of (i := 870) (by decide +kernel) (by decide +kernel))⟩
theorem fX11_117 : FL RX11 117 11 45 := ⟨RX11, TX11, 47, rfl, inX11, by decide, (gw_of (i := 871) (by decide +kernel) (by decide +kernel))⟩
theorem fX11_120 : FL RX11 120 11 46 := ⟨RX11, TX11, 47, rfl, inX11, by decide, (gw_of (i := 872) (by decide +kernel) (by decide +kernel))⟩
theorem mL_13 : MV "EmptyLegsLaw" 13 RX10 yX10_feed cX10_feed 6 (some .int) 5 := ⟨(gw_of (i := 352) (by decide +kernel) (by decide +kernel)), (gw_of (i := 353) (by decide +kernel) (by decide +kernel)), (gw_of (i := 354) (by decide +kernel) (by decide +kernel)), (gw_of (i := 41) (by decide +kernel) (by decide +kernel)), (gw_of (i := 355) (by decide +kernel) (by decide +kernel)), by decide +kernel⟩
theorem mX10_85 : MV RX10 85 RX8 yX8_hasRoom cX8_hasRoom 1 (some .boolean) 0 := ⟨(gw_of (i := 356) (by decide +kernel) (by decide +kernel)), (gw_of (i := 357) (by decide +kernel) (by decide +kernel)), (gw_of (i := 358) (by decide +kernel) (by decide +kernel)), (gw_of (i := 42) (by decide +kernel) (by decide +kernel)), (gw_of (i := 359) (by decide +kernel) (by decide +kernel)), by decide +kernel⟩
theorem mX10_89 : MV RX10 89 RX8 yX8_write cX8_write 3 (none) 1 := ⟨(gw_of (i := 360) (by decide +kernel) (by decide +kernel)), (gw_of (i := 361) (by decide +kernel) (by decide +kernel)), (gw_of (i := 362) (by decide +kernel) (by decide +kernel)), (gw_of (i := 42) (by decide +kernel) (by decide +kernel)), (gw_of (i := 363) (by decide +kernel) (by decide +kernel)), by decide +kernel⟩
theorem mX10_93 : MV RX10 93 RX8 yX8_length cX8_length 1 (some .int) 0 := ⟨(gw_of (i := 364) (by decide +kernel) (by decide +kernel)), (gw_of (i := 365) (by decide +kernel) (by decide +kernel)), (gw_of (i := 366) (by decide +kernel) (by decide +kernel)), (gw_of (i := 42) (by decide +kernel) (by decide +kernel)), (gw_of (i := 367) (by decide +kernel) (by decide +kernel)), by decide +kernel⟩
theorem mL_18 : MV "EmptyLegsLaw" 18 RX10 yX10_law cX10_law 4 (some .int) 2 := ⟨(gw_of (i := 368) (by decide +kernel) (by decide +kernel)), (gw_of (i := 369) (by decide +kernel) (by decide +kernel)), (gw_of (i := 370) (by decide +kernel) (by decide +kernel)), (gw_of (i := 41) (by decide +kernel) (by decide +kernel)), (gw_of (i := 371) (by decide +kernel) (by decide +kernel)), by decide +kernel⟩
theorem mX10_97 : MS RX10 97 yX10_isDay cX10_isDay 1 (some .boolean) 1 := ⟨(gw_of (i := 372) (by decide +kernel) (by decide +kernel)), (gw_of (i := 373) (by decide +kernel) (by decide +kernel)), (gw_of (i := 41) (by decide +kernel) (by decide +kernel)), (gw_of (i := 374) (by decide +kernel) (by decide +kernel)), by decide +kernel⟩
theorem mX10_101 : MV RX10 101 RX2 yX2_read cX2_read 6 (some .int) 2 := ⟨(gw_of (i := 375) (by decide +kernel) (by decide +kernel)), (gw_of (i := 376) (by decide +kernel) (by decide +kernel)), (gw_of (i := 377) (by decide +kernel) (by decide +kernel)), (gw_of (i := 43) (by decide +kernel) (by decide +kernel)), (gw_of (i := 378) (by decide +kernel) (by decide +kernel)), by decide +kernel⟩
theorem mX2_34 : MV RX2 34 RX2 yX2_readClause cX2_readClause 7 (some .int) 2 := ⟨(gw_of (i := 379) (by decide +kernel) (by decide +kernel)), (gw_of (i := 381) (by decide +kernel) (by decide +kernel)), (gw_of (i := 0) (by decide +kernel) (by decide +kernel)), (gw_of (i := 43) (by decide +kernel) (by decide +kernel)), (gw_of (i := 382) (by decide +kernel) (by decide +kernel)), by decide +kernel⟩
theorem mX2_38 : MV RX2 38 RX8 yX8_at cX8_at 3 (some .int) 2 := ⟨(gw_of (i := 383) (by decide +kernel) (by decide +kernel)), (gw_of (i := 384) (by decide +kernel) (by decide +kernel)), (gw_of (i := 385) (by decide +kernel) (by decide +kernel)), (gw_of (i := 42) (by decide +kernel) (by decide +kernel)), (gw_of (i := 386) (by decide +kernel) (by decide +kernel)), by decide +kernel⟩
theorem mX2_44 : MV RX2 44 RX2 yX2_readNumber cX2_readNumber 6 (some .int) 2 := ⟨(gw_of (i := 387) (by decide +kernel) (by decide +kernel)), (gw_of (i := 389) (by decide +kernel) (by decide +kernel)), (gw_of (i := 1) (by decide +kernel) (by decide +kernel)), (gw_of (i := 43) (by decide +kernel) (by decide +kernel)), (gw_of (i := 390) (by decide +kernel) (by decide +kernel)), by decide +kernel⟩
theorem mX10_105 : MV RX10 105 RX8 yX8_wipe cX8_wipe 1 (none) 0 := ⟨(gw_of (i := 394) (by decide +kernel) (by decide +kernel)), (gw_of (i := 395) (by decide +kernel) (by decide +kernel)), (gw_of (i := 396) (by decide +kernel) (by decide +kernel)), (gw_of (i := 42) (by decide +kernel) (by decide +kernel)), (gw_of (i := 397) (by decide +kernel) (by decide +kernel)), by decide +kernel⟩
theorem mX10_108 : MV RX10 108 RX2 yX2_enact cX2_enact 5 (none) 1 := ⟨(gw_of (i := 398) (by decide +kernel) (by decide +kernel)), (gw_of (i := 399) (by decide +kernel) (by decide +kernel)), (gw_of (i := 400) (by decide +kernel) (by decide +kernel)), (gw_of (i := 43) (by decide +kernel) (by decide +kernel)), (gw_of (i := 401) (by decide +kernel) (by decide +kernel)), by decide +kernel⟩
theorem mL_23 : MV "EmptyLegsLaw" 23 RX10 yX10_rule cX10_rule 3 (some .int) 2 := ⟨(gw_of (i := 403) (by decide +kernel) (by decide +kernel)), (gw_of (i := 404) (by decide +kernel) (by decide +kernel)), (gw_of (i := 405) (by decide +kernel) (by decide +kernel)), (gw_of (i := 41) (by decide +kernel) (by decide +kernel)), (gw_of (i := 406) (by decide +kernel) (by decide +kernel)), by decide +kernel⟩
theorem mX10_111 : MV RX10 111 RX2 yX2_dutyOn cX2_dutyOn 2 (some .int) 1 := ⟨(gw_of (i := 407) (by decide +kernel) (by decide +kernel)), (gw_of (i := 408) (by decide +kernel) (by decide +kernel)), (gw_of (i := 409) (by decide +kernel) (by decide +kernel)), (gw_of (i := 43) (by decide +kernel) (by decide +kernel)), (gw_of (i := 410) (by decide +kernel) (by decide +kernel)), by decide +kernel⟩
theorem mX10_115 : MV RX10 115 RX2 yX2_restOn cX2_restOn 2 (some .int) 1 := ⟨(gw_of (i := 411) (by decide +kernel) (by decide +kernel)), (gw_of (i := 412) (by decide +kernel) (by decide +kernel)), (gw_of (i := 413) (by decide +kernel) (by decide +kernel)), (gw_of (i := 43) (by decide +kernel) (by decide +kernel)), (gw_of (i := 414) (by decide +kernel) (by decide +kernel)), by decide +kernel⟩
theorem mL_27 : MV "EmptyLegsLaw" 27 RX10 yX10_way cX10_way 4 (some .boolean) 3 := ⟨(gw_of (i := 415) (by decide +kernel) (by decide +kernel)), (gw_of (i := 416) (by decide +kernel) (by decide +kernel)), (gw_of (i := 417) (by decide +kernel) (by decide +kernel)), (gw_of (i := 41) (by decide +kernel) (by decide +kernel)), (gw_of (i := 418) (by decide +kernel) (by decide +kernel)), by decide +kernel⟩
theorem mX10_118 : MS RX10 118 yX10_isField cX10_isField 1 (some .boolean) 1 := ⟨(gw_of (i := 419) (by decide +kernel) (by decide +kernel)), (gw_of (i := 420) (by decide +kernel) (by decide +kernel)), (gw_of (i := 41) (by decide +kernel) (by decide +kernel)), (gw_of (i := 421) (by decide +kernel) (by decide +kernel)), by decide +kernel⟩
theorem mX10_121 : MV RX10 121 RX1 yX1_anyBetween cX1_anyBetween 6 (some .boolean) 2 := ⟨(gw_of (i := 422) (by decide +kernel) (by decide +kernel)), (gw_of (i := 423) (by decide +kernel) (by decide +kernel)), (gw_of (i := 424) (by decide +kernel) (by decide +kernel)), (gw_of (i := 46) (by decide +kernel) (by decide +kernel)), (gw_of (i := 425) (by decide +kernel) (by decide +kernel)), by decide +kernel⟩
theorem mX10_125 : MS RX10 125 yX10_isWithin cX10_isWithin 3 (some .boolean) 3 := ⟨(gw_of (i := 426) (by decide +kernel) (by decide +kernel)), (gw_of (i := 392) (by decide +kernel) (by decide +kernel)), (gw_of (i := 41) (by decide +kernel) (by decide +kernel)), (gw_of (i := 393) (by decide +kernel) (by decide +kernel)), by decide +kernel⟩
theorem mX10_129 : MV RX10 129 RX9 yX9_put cX9_put 4 (none) 3 := ⟨(gw_of (i := 427) (by decide +kernel) (by decide +kernel)), (gw_of (i := 428) (by decide +kernel) (by decide +kernel)), (gw_of (i := 429) (by decide +kernel) (by decide +kernel)), (gw_of (i := 44) (by decide +kernel) (by decide +kernel)), (gw_of (i := 430) (by decide +kernel) (by decide +kernel)), by decide +kernel⟩
theorem mL_32 : MV "EmptyLegsLaw" 32 RX10 yX10_plane cX10_plane 5 (some .int) 4 := ⟨(gw_of (i := 432) (by decide +kernel) (by decide +kernel)), (gw_of (i := 433) (by decide +kernel) (by decide +kernel)), (gw_of (i := 434) (by decide +kernel) (by decide +kernel)), (gw_of (i := 41) (by decide +kernel) (by decide +kernel)), (gw_of (i := 435) (by decide +kernel) (by decide +kernel)), by decide +kernel⟩
theorem mX10_133 : MV RX10 133 RX4 yX4_add cX4_add 5 (some .int) 4 := ⟨(gw_of (i := 436) (by decide +kernel) (by decide +kernel)), (gw_of (i := 437) (by decide +kernel) (by decide +kernel)), (gw_of (i := 438) (by decide +kernel) (by decide +kernel)), (gw_of (i := 45) (by decide +kernel) (by decide +kernel)), (gw_of (i := 439) (by decide +kernel) (by decide +kernel)), by decide +kernel⟩
theorem mL_37 : MV "EmptyLegsLaw" 37 RX10 yX10_flight cX10_flight 5 (some .int) 4 := ⟨(gw_of (i := 440) (by decide +kernel) (by decide +kernel)), (gw_of (i := 441) (by decide +kernel) (by decide +kernel)), (gw_of (i := 442) (by decide +kernel) (by decide +kernel)), (gw_of (i := 41) (by decide +kernel) (by decide +kernel)), (gw_of (i := 443) (by decide +kernel) (by decide +kernel)), by decide +kernel⟩
theorem mX10_137 : MV RX10 137 RX9 yX9_minutes cX9_minutes 3 (some .int) 2 := ⟨(gw_of (i := 444) (by decide +kernel) (by decide +kernel)), (gw_of (i := 445) (by decide +kernel) (by decide +kernel)), (gw_of (i := 446) (by decide +kernel) (by decide +kernel)), (gw_of (i := 44) (by decide +kernel) (by decide +kernel)), (gw_of (i := 447) (by decide +kernel) (by decide +kernel)), by decide +kernel⟩
theorem mX10_141 : MS RX10 141 yX10_isMinute cX10_isMinute 1 (some .boolean) 1 := ⟨(gw_of (i := 448) (by decide +kernel) (by decide +kernel)), (gw_of (i := 449) (by decide +kernel) (by decide +kernel)), (gw_of (i := 41) (by decide +kernel) (by decide +kernel)), (gw_of (i := 450) (by decide +kernel) (by decide +kernel)), by decide +kernel⟩
theorem mX10_144 : MV RX10 144 RX1 yX1_add cX1_add 5 (some .int) 4 := ⟨(gw_of (i := 451) (by decide +kernel) (by decide +kernel)), (gw_of (i := 452) (by decide +kernel) (by decide +kernel)), (gw_of (i := 453) (by decide +kernel) (by decide +kernel)), (gw_of (i := 46) (by decide +kernel) (by decide +kernel)), (gw_of (i := 454) (by decide +kernel) (by decide +kernel)), by decide +kernel⟩
theorem mX1_38 : MV RX1 38 RX1 yX1_lineUp cX1_lineUp 5 (none) 2 := ⟨(gw_of (i := 455) (by decide +kernel) (by decide +kernel)), (gw_of (i := 457) (by decide +kernel) (by decide +kernel)), (gw_of (i := 2) (by decide +kernel) (by decide +kernel)), (gw_of (i := 46) (by decide +kernel) (by decide +kernel)), (gw_of (i := 458) (by decide +kernel) (by decide +kernel)), by decide +kernel⟩
theorem mX1_42 : MV RX1 42 RX1 yX1_startOf cX1_startOf 2 (some .int) 1 := ⟨(gw_of (i := 459) (by decide +kernel) (by decide +kernel)), (gw_of (i := 460) (by decide +kernel) (by decide +kernel)), (gw_of (i := 461) (by decide +kernel) (by decide +kernel)), (gw_of (i := 46) (by decide +kernel) (by decide +kernel)), (gw_of (i := 462) (by decide +kernel) (by decide +kernel)), by decide +kernel⟩
theorem mX1_50 : MV RX1 50 RX1 yX1_has cX1_has 2 (some .boolean) 1 := ⟨(gw_of (i := 463) (by decide +kernel) (by decide +kernel)), (gw_of (i := 464) (by decide +kernel) (by decide +kernel)), (gw_of (i := 465) (by decide +kernel) (by decide +kernel)), (gw_of (i := 46) (by decide +kernel) (by decide +kernel)), (gw_of (i := 466) (by decide +kernel) (by decide +kernel)), by decide +kernel⟩
theorem mL_41 : MV "EmptyLegsLaw" 41 RX10 yX10_cancel cX10_cancel 2 (some .boolean) 1 := ⟨(gw_of (i := 467) (by decide +kernel) (by decide +kernel)), (gw_of (i := 468) (by decide +kernel) (by decide +kernel)), (gw_of (i := 469) (by decide +kernel) (by decide +kernel)), (gw_of (i := 41) (by decide +kernel) (by decide +kernel)), (gw_of (i := 470) (by decide +kernel) (by decide +kernel)), by decide +kernel⟩
theorem mX10_145 : MV RX10 145 RX1 yX1_isLive cX1_isLive 2 (some .boolean) 1 := ⟨(gw_of (i := 471) (by decide +kernel) (by decide +kernel)), (gw_of (i := 472) (by decide +kernel) (by decide +kernel)), (gw_of (i := 473) (by decide +kernel) (by decide +kernel)), (gw_of (i := 46) (by decide +kernel) (by decide +kernel)), (gw_of (i := 474) (by decide +kernel) (by decide +kernel)), by decide +kernel⟩
theorem mX10_148 : MV RX10 148 RX1 yX1_strike cX1_strike 2 (none) 1 := ⟨(gw_of (i := 475) (by decide +kernel) (by decide +kernel)), (gw_of (i := 476) (by decide +kernel) (by decide +kernel)), (gw_of (i := 477) (by decide +kernel) (by decide +kernel)), (gw_of (i := 46) (by decide +kernel) (by decide +kernel)), (gw_of (i := 478) (by decide +kernel) (by decide +kernel)), by decide +kernel⟩
theorem mX1_46 : MV RX1 46 RX1 yX1_isLive cX1_isLive 2 (some .boolean) 1 := ⟨(gw_of (i := 479) (by decide +kernel) (by decide +kernel)), (gw_of (i := 472) (by decide +kernel) (by decide +kernel)), (gw_of (i := 473) (by decide +kernel) (by decide +kernel)), (gw_of (i := 46) (by decide +kernel) (by decide +kernel)), (gw_of (i := 474) (by decide +kernel) (by decide +kernel)), by decide +kernel⟩
theorem mX10_151 : MV RX10 151 RX6 yX6_assign cX6_assign 3 (none) 2 := ⟨(gw_of (i := 480) (by decide +kernel) (by decide +kernel)), (gw_of (i := 481) (by decide +kernel) (by decide +kernel)), (gw_of (i := 482) (by decide +kernel) (by decide +kernel)), (gw_of (i := 48) (by decide +kernel) (by decide +kernel)), (gw_of (i := 483) (by decide +kernel) (by decide +kernel)), by decide +kernel⟩
theorem mX6_29 : MV RX6 29 RX1 yX1_has cX1_has 2 (some .boolean) 1 := ⟨(gw_of (i := 484) (by decide +kernel) (by decide +kernel)), (gw_of (i := 464) (by decide +kernel) (by decide +kernel)), (gw_of (i := 465) (by decide +kernel) (by decide +kernel)), (gw_of (i := 46) (by decide +kernel) (by decide +kernel)), (gw_of (i := 466) (by decide +kernel) (by decide +kernel)), by decide +kernel⟩
theorem mX10_155 : MV RX10 155 RX3 yX3_breakLost cX3_breakLost 5 (none) 1 := ⟨(gw_of (i := 485) (by decide +kernel) (by decide +kernel)), (gw_of (i := 486) (by decide +kernel) (by decide +kernel)), (gw_of (i := 487) (by decide +kernel) (by decide +kernel)), (gw_of (i := 51) (by decide +kernel) (by decide +kernel)), (gw_of (i := 488) (by decide +kernel) (by decide +kernel)), by decide +kernel⟩
theorem mX3_41 : MV RX3 41 RX6 yX6_planeOf cX6_planeOf 2 (some .int) 1 := ⟨(gw_of (i := 489) (by decide +kernel) (by decide +kernel)), (gw_of (i := 490) (by decide +kernel) (by decide +kernel)), (gw_of (i := 491) (by decide +kernel) (by decide +kernel)), (gw_of (i := 48) (by decide +kernel) (by decide +kernel)), (gw_of (i := 492) (by decide +kernel) (by decide +kernel)), by decide +kernel⟩
theorem mX3_47 : MV RX3 47 RX6 yX6_hasLeg cX6_hasLeg 2 (some .boolean) 1 := ⟨(gw_of (i := 493) (by decide +kernel) (by decide +kernel)), (gw_of (i := 494) (by decide +kernel) (by decide +kernel)), (gw_of (i := 495) (by decide +kernel) (by decide +kernel)), (gw_of (i := 48) (by decide +kernel) (by decide +kernel)), (gw_of (i := 496) (by decide +kernel) (by decide +kernel)), by decide +kernel⟩
theorem mX6_37 : MV RX6 37 RX6 yX6_planeOf cX6_planeOf 2 (some .int) 1 := ⟨(gw_of (i := 497) (by decide +kernel) (by decide +kernel)), (gw_of (i := 490) (by decide +kernel) (by decide +kernel)), (gw_of (i := 491) (by decide +kernel) (by decide +kernel)), (gw_of (i := 48) (by decide +kernel) (by decide +kernel)), (gw_of (i := 492) (by decide +kernel) (by decide +kernel)), by decide +kernel⟩
theorem mX6_64 : MV RX6 64 RX6 yX6_placeAhead cX6_placeAhead 6 (some .int) 1 := ⟨(gw_of (i := 498) (by decide +kernel) (by decide +kernel)), (gw_of (i := 499) (by decide +kernel) (by decide +kernel)), (gw_of (i := 500) (by decide +kernel) (by decide +kernel)), (gw_of (i := 48) (by decide +kernel) (by decide +kernel)), (gw_of (i := 501) (by decide +kernel) (by decide +kernel)), by decide +kernel⟩
theorem mX6_56 : MV RX6 56 RX4 yX4_homeOf cX4_homeOf 2 (some .int) 1 := ⟨(gw_of (i := 502) (by decide +kernel) (by decide +kernel)), (gw_of (i := 503) (by decide +kernel) (by decide +kernel)), (gw_of (i := 504) (by decide +kernel) (by decide +kernel)), (gw_of (i := 45) (by decide +kernel) (by decide +kernel)), (gw_of (i := 505) (by decide +kernel) (by decide +kernel)), by decide +kernel⟩
theorem mX4_28 : MV RX4 28 RX4 yX4_has cX4_has 2 (some .boolean) 1 := ⟨(gw_of (i := 506) (by decide +kernel) (by decide +kernel)), (gw_of (i := 507) (by decide +kernel) (by decide +kernel)), (gw_of (i := 508) (by decide +kernel) (by decide +kernel)), (gw_of (i := 45) (by decide +kernel) (by decide +kernel)), (gw_of (i := 509) (by decide +kernel) (by decide +kernel)), by decide +kernel⟩
theorem mX6_33 : MV RX6 33 RX1 yX1_size cX1_size 1 (some .int) 0 := ⟨(gw_of (i := 510) (by decide +kernel) (by decide +kernel)), (gw_of (i := 511) (by decide +kernel) (by decide +kernel)), (gw_of (i := 512) (by decide +kernel) (by decide +kernel)), (gw_of (i := 46) (by decide +kernel) (by decide +kernel)), (gw_of (i := 513) (by decide +kernel) (by decide +kernel)), by decide +kernel⟩
theorem mX6_61 : MV RX6 61 RX1 yX1_inOrder cX1_inOrder 2 (some .int) 1 := ⟨(gw_of (i := 514) (by decide +kernel) (by decide +kernel)), (gw_of (i := 515) (by decide +kernel) (by decide +kernel)), (gw_of (i := 516) (by decide +kernel) (by decide +kernel)), (gw_of (i := 46) (by decide +kernel) (by decide +kernel)), (gw_of (i := 517) (by decide +kernel) (by decide +kernel)), by decide +kernel⟩
theorem mX6_47 : MV RX6 47 RX1 yX1_toOf cX1_toOf 2 (some .int) 1 := ⟨(gw_of (i := 518) (by decide +kernel) (by decide +kernel)), (gw_of (i := 519) (by decide +kernel) (by decide +kernel)), (gw_of (i := 520) (by decide +kernel) (by decide +kernel)), (gw_of (i := 46) (by decide +kernel) (by decide +kernel)), (gw_of (i := 521) (by decide +kernel) (by decide +kernel)), by decide +kernel⟩
theorem mX6_44 : MV RX6 44 RX1 yX1_fromOf cX1_fromOf 2 (some .int) 1 := ⟨(gw_of (i := 522) (by decide +kernel) (by decide +kernel)), (gw_of (i := 523) (by decide +kernel) (by decide +kernel)), (gw_of (i := 524) (by decide +kernel) (by decide +kernel)), (gw_of (i := 46) (by decide +kernel) (by decide +kernel)), (gw_of (i := 525) (by decide +kernel) (by decide +kernel)), by decide +kernel⟩
theorem mX3_50 : MV RX3 50 RX6 yX6_placeAhead cX6_placeAhead 6 (some .int) 1 := ⟨(gw_of (i := 526) (by decide +kernel) (by decide +kernel)), (gw_of (i := 499) (by decide +kernel) (by decide +kernel)), (gw_of (i := 500) (by decide +kernel) (by decide +kernel)), (gw_of (i := 48) (by decide +kernel) (by decide +kernel)), (gw_of (i := 501) (by decide +kernel) (by decide +kernel)), by decide +kernel⟩
theorem mX3_53 : MV RX3 53 RX3 yX3_isStanding cX3_isStanding 2 (some .boolean) 1 := ⟨(gw_of (i := 527) (by decide +kernel) (by decide +kernel)), (gw_of (i := 529) (by decide +kernel) (by decide +kernel)), (gw_of (i := 3) (by decide +kernel) (by decide +kernel)), (gw_of (i := 51) (by decide +kernel) (by decide +kernel)), (gw_of (i := 530) (by decide +kernel) (by decide +kernel)), by decide +kernel⟩
theorem mX3_56 : MV RX3 56 RX3 yX3_stateOf cX3_stateOf 2 (some .int) 1 := ⟨(gw_of (i := 531) (by decide +kernel) (by decide +kernel)), (gw_of (i := 532) (by decide +kernel) (by decide +kernel)), (gw_of (i := 533) (by decide +kernel) (by decide +kernel)), (gw_of (i := 51) (by decide +kernel) (by decide +kernel)), (gw_of (i := 534) (by decide +kernel) (by decide +kernel)), by decide +kernel⟩
theorem mX3_37 : MV RX3 37 RX3 yX3_has cX3_has 2 (some .boolean) 1 := ⟨(gw_of (i := 535) (by decide +kernel) (by decide +kernel)), (gw_of (i := 537) (by decide +kernel) (by decide +kernel)), (gw_of (i := 4) (by decide +kernel) (by decide +kernel)), (gw_of (i := 51) (by decide +kernel) (by decide +kernel)), (gw_of (i := 538) (by decide +kernel) (by decide +kernel)), by decide +kernel⟩
theorem mL_46 : MV "EmptyLegsLaw" 46 RX10 yX10_storm cX10_storm 4 (some .int) 3 := ⟨(gw_of (i := 539) (by decide +kernel) (by decide +kernel)), (gw_of (i := 540) (by decide +kernel) (by decide +kernel)), (gw_of (i := 541) (by decide +kernel) (by decide +kernel)), (gw_of (i := 41) (by decide +kernel) (by decide +kernel)), (gw_of (i := 542) (by decide +kernel) (by decide +kernel)), by decide +kernel⟩
theorem mX10_159 : MV RX10 159 RX7 yX7_add cX7_add 4 (some .int) 3 := ⟨(gw_of (i := 543) (by decide +kernel) (by decide +kernel)), (gw_of (i := 544) (by decide +kernel) (by decide +kernel)), (gw_of (i := 545) (by decide +kernel) (by decide +kernel)), (gw_of (i := 47) (by decide +kernel) (by decide +kernel)), (gw_of (i := 546) (by decide +kernel) (by decide +kernel)), by decide +kernel⟩
theorem mL_51 : MV "EmptyLegsLaw" 51 RX10 yX10_clock cX10_clock 2 (some .boolean) 1 := ⟨(gw_of (i := 547) (by decide +kernel) (by decide +kernel)), (gw_of (i := 548) (by decide +kernel) (by decide +kernel)), (gw_of (i := 549) (by decide +kernel) (by decide +kernel)), (gw_of (i := 41) (by decide +kernel) (by decide +kernel)), (gw_of (i := 550) (by decide +kernel) (by decide +kernel)), by decide +kernel⟩
theorem mX10_162 : MV RX10 162 RX3 yX3_lapseBehind cX3_lapseBehind 3 (none) 1 := ⟨(gw_of (i := 551) (by decide +kernel) (by decide +kernel)), (gw_of (i := 552) (by decide +kernel) (by decide +kernel)), (gw_of (i := 553) (by decide +kernel) (by decide +kernel)), (gw_of (i := 51) (by decide +kernel) (by decide +kernel)), (gw_of (i := 554) (by decide +kernel) (by decide +kernel)), by decide +kernel⟩
theorem mL_55 : MV "EmptyLegsLaw" 55 RX10 yX10_plan cX10_plan 1 (some .int) 0 := ⟨(gw_of (i := 555) (by decide +kernel) (by decide +kernel)), (gw_of (i := 556) (by decide +kernel) (by decide +kernel)), (gw_of (i := 557) (by decide +kernel) (by decide +kernel)), (gw_of (i := 41) (by decide +kernel) (by decide +kernel)), (gw_of (i := 558) (by decide +kernel) (by decide +kernel)), by decide +kernel⟩
theorem mX10_165 : MV RX10 165 RX5 yX5_settle cX5_settle 4 (some .int) 1 := ⟨(gw_of (i := 559) (by decide +kernel) (by decide +kernel)), (gw_of (i := 560) (by decide +kernel) (by decide +kernel)), (gw_of (i := 561) (by decide +kernel) (by decide +kernel)), (gw_of (i := 49) (by decide +kernel) (by decide +kernel)), (gw_of (i := 562) (by decide +kernel) (by decide +kernel)), by decide +kernel⟩
theorem mX5_58 : MV RX5 58 RX5 yX5_lineUp cX5_lineUp 4 (none) 0 := ⟨(gw_of (i := 564) (by decide +kernel) (by decide +kernel)), (gw_of (i := 566) (by decide +kernel) (by decide +kernel)), (gw_of (i := 5) (by decide +kernel) (by decide +kernel)), (gw_of (i := 49) (by decide +kernel) (by decide +kernel)), (gw_of (i := 567) (by decide +kernel) (by decide +kernel)), by decide +kernel⟩
theorem mX5_98 : MV RX5 98 RX1 yX1_size cX1_size 1 (some .int) 0 := ⟨(gw_of (i := 568) (by decide +kernel) (by decide +kernel)), (gw_of (i := 511) (by decide +kernel) (by decide +kernel)), (gw_of (i := 512) (by decide +kernel) (by decide +kernel)), (gw_of (i := 46) (by decide +kernel) (by decide +kernel)), (gw_of (i := 513) (by decide +kernel) (by decide +kernel)), by decide +kernel⟩
theorem mX5_99 : MV RX5 99 RX1 yX1_inOrder cX1_inOrder 2 (some .int) 1 := ⟨(gw_of (i := 569) (by decide +kernel) (by decide +kernel)), (gw_of (i := 515) (by decide +kernel) (by decide +kernel)), (gw_of (i := 516) (by decide +kernel) (by decide +kernel)), (gw_of (i := 46) (by decide +kernel) (by decide +kernel)), (gw_of (i := 517) (by decide +kernel) (by decide +kernel)), by decide +kernel⟩
theorem mX5_111 : MV RX5 111 RX1 yX1_isLive cX1_isLive 2 (some .boolean) 1 := ⟨(gw_of (i := 570) (by decide +kernel) (by decide +kernel)), (gw_of (i := 472) (by decide +kernel) (by decide +kernel)), (gw_of (i := 473) (by decide +kernel) (by decide +kernel)), (gw_of (i := 46) (by decide +kernel) (by decide +kernel)), (gw_of (i := 474) (by decide +kernel) (by decide +kernel)), by decide +kernel⟩
theorem mX5_61 : MV RX5 61 RX4 yX4_size cX4_size 1 (some .int) 0 := ⟨(gw_of (i := 573) (by decide +kernel) (by decide +kernel)), (gw_of (i := 574) (by decide +kernel) (by decide +kernel)), (gw_of (i := 575) (by decide +kernel) (by decide +kernel)), (gw_of (i := 45) (by decide +kernel) (by decide +kernel)), (gw_of (i := 576) (by decide +kernel) (by decide +kernel)), by decide +kernel⟩
theorem mX5_67 : MV RX5 67 RX5 yX5_weighChains cX5_weighChains 7 (none) 1 := ⟨(gw_of (i := 577) (by decide +kernel) (by decide +kernel)), (gw_of (i := 579) (by decide +kernel) (by decide +kernel)), (gw_of (i := 6) (by decide +kernel) (by decide +kernel)), (gw_of (i := 49) (by decide +kernel) (by decide +kernel)), (gw_of (i := 580) (by decide +kernel) (by decide +kernel)), by decide +kernel⟩
theorem mX5_93 : MV RX5 93 RX0 yX0_begin cX0_begin 2 (none) 1 := ⟨(gw_of (i := 581) (by decide +kernel) (by decide +kernel)), (gw_of (i := 582) (by decide +kernel) (by decide +kernel)), (gw_of (i := 583) (by decide +kernel) (by decide +kernel)), (gw_of (i := 50) (by decide +kernel) (by decide +kernel)), (gw_of (i := 584) (by decide +kernel) (by decide +kernel)), by decide +kernel⟩
theorem mX0_31 : MV RX0 31 RX4 yX4_seatsOf cX4_seatsOf 2 (some .int) 1 := ⟨(gw_of (i := 585) (by decide +kernel) (by decide +kernel)), (gw_of (i := 586) (by decide +kernel) (by decide +kernel)), (gw_of (i := 587) (by decide +kernel) (by decide +kernel)), (gw_of (i := 45) (by decide +kernel) (by decide +kernel)), (gw_of (i := 588) (by decide +kernel) (by decide +kernel)), by decide +kernel⟩
theorem mX0_41 : MV RX0 41 RX4 yX4_turnOf cX4_turnOf 2 (some .int) 1 := ⟨(gw_of (i := 589) (by decide +kernel) (by decide +kernel)), (gw_of (i := 590) (by decide +kernel) (by decide +kernel)), (gw_of (i := 591) (by decide +kernel) (by decide +kernel)), (gw_of (i := 45) (by decide +kernel) (by decide +kernel)), (gw_of (i := 592) (by decide +kernel) (by decide +kernel)), by decide +kernel⟩
theorem mX0_47 : MV RX0 47 RX4 yX4_homeOf cX4_homeOf 2 (some .int) 1 := ⟨(gw_of (i := 593) (by decide +kernel) (by decide +kernel)), (gw_of (i := 503) (by decide +kernel) (by decide +kernel)), (gw_of (i := 504) (by decide +kernel) (by decide +kernel)), (gw_of (i := 45) (by decide +kernel) (by decide +kernel)), (gw_of (i := 505) (by decide +kernel) (by decide +kernel)), by decide +kernel⟩
theorem mX0_50 : MV RX0 50 RX0 yX0_resume cX0_resume 4 (none) 3 := ⟨(gw_of (i := 594) (by decide +kernel) (by decide +kernel)), (gw_of (i := 595) (by decide +kernel) (by decide +kernel)), (gw_of (i := 596) (by decide +kernel) (by decide +kernel)), (gw_of (i := 50) (by decide +kernel) (by decide +kernel)), (gw_of (i := 597) (by decide +kernel) (by decide +kernel)), by decide +kernel⟩
theorem mX5_125 : MV RX5 125 RX5 yX5_keep cX5_keep 4 (none) 2 := ⟨(gw_of (i := 598) (by decide +kernel) (by decide +kernel)), (gw_of (i := 600) (by decide +kernel) (by decide +kernel)), (gw_of (i := 7) (by decide +kernel) (by decide +kernel)), (gw_of (i := 49) (by decide +kernel) (by decide +kernel)), (gw_of (i := 601) (by decide +kernel) (by decide +kernel)), by decide +kernel⟩
theorem mX5_141 : MV RX5 141 RX0 yX0_place cX0_place 1 (some .int) 0 := ⟨(gw_of (i := 602) (by decide +kernel) (by decide +kernel)), (gw_of (i := 603) (by decide +kernel) (by decide +kernel)), (gw_of (i := 604) (by decide +kernel) (by decide +kernel)), (gw_of (i := 50) (by decide +kernel) (by decide +kernel)), (gw_of (i := 605) (by decide +kernel) (by decide +kernel)), by decide +kernel⟩
theorem mX5_143 : MV RX5 143 RX0 yX0_ended cX0_ended 1 (some .int) 0 := ⟨(gw_of (i := 606) (by decide +kernel) (by decide +kernel)), (gw_of (i := 607) (by decide +kernel) (by decide +kernel)), (gw_of (i := 608) (by decide +kernel) (by decide +kernel)), (gw_of (i := 50) (by decide +kernel) (by decide +kernel)), (gw_of (i := 609) (by decide +kernel) (by decide +kernel)), by decide +kernel⟩
theorem mX5_145 : MV RX5 145 RX0 yX0_dutyBegan cX0_dutyBegan 1 (some .int) 0 := ⟨(gw_of (i := 610) (by decide +kernel) (by decide +kernel)), (gw_of (i := 611) (by decide +kernel) (by decide +kernel)), (gw_of (i := 612) (by decide +kernel) (by decide +kernel)), (gw_of (i := 50) (by decide +kernel) (by decide +kernel)), (gw_of (i := 613) (by decide +kernel) (by decide +kernel)), by decide +kernel⟩
theorem mX5_129 : MV RX5 129 RX5 yX5_ownCost cX5_ownCost 6 (some .long) 2 := ⟨(gw_of (i := 614) (by decide +kernel) (by decide +kernel)), (gw_of (i := 616) (by decide +kernel) (by decide +kernel)), (gw_of (i := 8) (by decide +kernel) (by decide +kernel)), (gw_of (i := 49) (by decide +kernel) (by decide +kernel)), (gw_of (i := 617) (by decide +kernel) (by decide +kernel)), by decide +kernel⟩
theorem mX5_103 : MV RX5 103 RX6 yX6_planeOf cX6_planeOf 2 (some .int) 1 := ⟨(gw_of (i := 618) (by decide +kernel) (by decide +kernel)), (gw_of (i := 490) (by decide +kernel) (by decide +kernel)), (gw_of (i := 491) (by decide +kernel) (by decide +kernel)), (gw_of (i := 48) (by decide +kernel) (by decide +kernel)), (gw_of (i := 492) (by decide +kernel) (by decide +kernel)), by decide +kernel⟩
theorem mX5_133 : MV RX5 133 RX5 yX5_costBehind cX5_costBehind 6 (some .long) 3 := ⟨(gw_of (i := 619) (by decide +kernel) (by decide +kernel)), (gw_of (i := 621) (by decide +kernel) (by decide +kernel)), (gw_of (i := 9) (by decide +kernel) (by decide +kernel)), (gw_of (i := 49) (by decide +kernel) (by decide +kernel)), (gw_of (i := 622) (by decide +kernel) (by decide +kernel)), by decide +kernel⟩
theorem mX5_137 : MV RX5 137 RX0 yX0_resume cX0_resume 4 (none) 3 := ⟨(gw_of (i := 623) (by decide +kernel) (by decide +kernel)), (gw_of (i := 595) (by decide +kernel) (by decide +kernel)), (gw_of (i := 596) (by decide +kernel) (by decide +kernel)), (gw_of (i := 50) (by decide +kernel) (by decide +kernel)), (gw_of (i := 597) (by decide +kernel) (by decide +kernel)), by decide +kernel⟩
theorem mX5_108 : MV RX5 108 RX0 yX0_join cX0_join 6 (some .int) 1 := ⟨(gw_of (i := 624) (by decide +kernel) (by decide +kernel)), (gw_of (i := 625) (by decide +kernel) (by decide +kernel)), (gw_of (i := 626) (by decide +kernel) (by decide +kernel)), (gw_of (i := 50) (by decide +kernel) (by decide +kernel)), (gw_of (i := 627) (by decide +kernel) (by decide +kernel)), by decide +kernel⟩
theorem mX0_63 : MV RX0 63 RX1 yX1_seatsOf cX1_seatsOf 2 (some .int) 1 := ⟨(gw_of (i := 628) (by decide +kernel) (by decide +kernel)), (gw_of (i := 629) (by decide +kernel) (by decide +kernel)), (gw_of (i := 630) (by decide +kernel) (by decide +kernel)), (gw_of (i := 46) (by decide +kernel) (by decide +kernel)), (gw_of (i := 631) (by decide +kernel) (by decide +kernel)), by decide +kernel⟩
theorem mX0_66 : MV RX0 66 RX1 yX1_fromOf cX1_fromOf 2 (some .int) 1 := ⟨(gw_of (i := 632) (by decide +kernel) (by decide +kernel)), (gw_of (i := 523) (by decide +kernel) (by decide +kernel)), (gw_of (i := 524) (by decide +kernel) (by decide +kernel)), (gw_of (i := 46) (by decide +kernel) (by decide +kernel)), (gw_of (i := 525) (by decide +kernel) (by decide +kernel)), by decide +kernel⟩
theorem mX0_69 : MV RX0 69 RX1 yX1_startOf cX1_startOf 2 (some .int) 1 := ⟨(gw_of (i := 633) (by decide +kernel) (by decide +kernel)), (gw_of (i := 460) (by decide +kernel) (by decide +kernel)), (gw_of (i := 461) (by decide +kernel) (by decide +kernel)), (gw_of (i := 46) (by decide +kernel) (by decide +kernel)), (gw_of (i := 462) (by decide +kernel) (by decide +kernel)), by decide +kernel⟩
theorem mX0_72 : MV RX0 72 RX9 yX9_minutes cX9_minutes 3 (some .int) 2 := ⟨(gw_of (i := 634) (by decide +kernel) (by decide +kernel)), (gw_of (i := 445) (by decide +kernel) (by decide +kernel)), (gw_of (i := 446) (by decide +kernel) (by decide +kernel)), (gw_of (i := 44) (by decide +kernel) (by decide +kernel)), (gw_of (i := 447) (by decide +kernel) (by decide +kernel)), by decide +kernel⟩
theorem mX0_78 : MV RX0 78 RX0 yX0_goes cX0_goes 5 (some .boolean) 3 := ⟨(gw_of (i := 635) (by decide +kernel) (by decide +kernel)), (gw_of (i := 637) (by decide +kernel) (by decide +kernel)), (gw_of (i := 10) (by decide +kernel) (by decide +kernel)), (gw_of (i := 50) (by decide +kernel) (by decide +kernel)), (gw_of (i := 638) (by decide +kernel) (by decide +kernel)), by decide +kernel⟩
theorem mX0_89 : MV RX0 89 RX7 yX7_shuts cX7_shuts 4 (some .boolean) 2 := ⟨(gw_of (i := 640) (by decide +kernel) (by decide +kernel)), (gw_of (i := 641) (by decide +kernel) (by decide +kernel)), (gw_of (i := 642) (by decide +kernel) (by decide +kernel)), (gw_of (i := 47) (by decide +kernel) (by decide +kernel)), (gw_of (i := 643) (by decide +kernel) (by decide +kernel)), by decide +kernel⟩
theorem mX0_95 : MV RX0 95 RX2 yX2_restOn cX2_restOn 2 (some .int) 1 := ⟨(gw_of (i := 644) (by decide +kernel) (by decide +kernel)), (gw_of (i := 412) (by decide +kernel) (by decide +kernel)), (gw_of (i := 413) (by decide +kernel) (by decide +kernel)), (gw_of (i := 43) (by decide +kernel) (by decide +kernel)), (gw_of (i := 414) (by decide +kernel) (by decide +kernel)), by decide +kernel⟩
theorem mX0_100 : MV RX0 100 RX2 yX2_dutyOn cX2_dutyOn 2 (some .int) 1 := ⟨(gw_of (i := 645) (by decide +kernel) (by decide +kernel)), (gw_of (i := 408) (by decide +kernel) (by decide +kernel)), (gw_of (i := 409) (by decide +kernel) (by decide +kernel)), (gw_of (i := 43) (by decide +kernel) (by decide +kernel)), (gw_of (i := 410) (by decide +kernel) (by decide +kernel)), by decide +kernel⟩
theorem mX0_82 : MV RX0 82 RX1 yX1_toOf cX1_toOf 2 (some .int) 1 := ⟨(gw_of (i := 646) (by decide +kernel) (by decide +kernel)), (gw_of (i := 519) (by decide +kernel) (by decide +kernel)), (gw_of (i := 520) (by decide +kernel) (by decide +kernel)), (gw_of (i := 46) (by decide +kernel) (by decide +kernel)), (gw_of (i := 521) (by decide +kernel) (by decide +kernel)), by decide +kernel⟩
theorem mX5_71 : MV RX5 71 RX5 yX5_addWeighed cX5_addWeighed 2 (none) 0 := ⟨(gw_of (i := 648) (by decide +kernel) (by decide +kernel)), (gw_of (i := 650) (by decide +kernel) (by decide +kernel)), (gw_of (i := 11) (by decide +kernel) (by decide +kernel)), (gw_of (i := 49) (by decide +kernel) (by decide +kernel)), (gw_of (i := 651) (by decide +kernel) (by decide +kernel)), by decide +kernel⟩
theorem mX5_81 : MV RX5 81 RX5 yX5_leastOf cX5_leastOf 6 (some .long) 1 := ⟨(gw_of (i := 652) (by decide +kernel) (by decide +kernel)), (gw_of (i := 654) (by decide +kernel) (by decide +kernel)), (gw_of (i := 12) (by decide +kernel) (by decide +kernel)), (gw_of (i := 49) (by decide +kernel) (by decide +kernel)), (gw_of (i := 655) (by decide +kernel) (by decide +kernel)), by decide +kernel⟩
theorem mX5_74 : MV RX5 74 RX5 yX5_weighUnflown cX5_weighUnflown 6 (none) 0 := ⟨(gw_of (i := 659) (by decide +kernel) (by decide +kernel)), (gw_of (i := 661) (by decide +kernel) (by decide +kernel)), (gw_of (i := 13) (by decide +kernel) (by decide +kernel)), (gw_of (i := 49) (by decide +kernel) (by decide +kernel)), (gw_of (i := 662) (by decide +kernel) (by decide +kernel)), by decide +kernel⟩
theorem mX5_87 : MV RX5 87 RX5 yX5_enter cX5_enter 7 (none) 1 := ⟨(gw_of (i := 664) (by decide +kernel) (by decide +kernel)), (gw_of (i := 666) (by decide +kernel) (by decide +kernel)), (gw_of (i := 14) (by decide +kernel) (by decide +kernel)), (gw_of (i := 49) (by decide +kernel) (by decide +kernel)), (gw_of (i := 667) (by decide +kernel) (by decide +kernel)), by decide +kernel⟩
theorem mX5_147 : MV RX5 147 RX6 yX6_assign cX6_assign 3 (none) 2 := ⟨(gw_of (i := 668) (by decide +kernel) (by decide +kernel)), (gw_of (i := 481) (by decide +kernel) (by decide +kernel)), (gw_of (i := 482) (by decide +kernel) (by decide +kernel)), (gw_of (i := 48) (by decide +kernel) (by decide +kernel)), (gw_of (i := 483) (by decide +kernel) (by decide +kernel)), by decide +kernel⟩
theorem mX10_169 : MV RX10 169 RX6 yX6_flown cX6_flown 3 (some .int) 0 := ⟨(gw_of (i := 669) (by decide +kernel) (by decide +kernel)), (gw_of (i := 670) (by decide +kernel) (by decide +kernel)), (gw_of (i := 671) (by decide +kernel) (by decide +kernel)), (gw_of (i := 48) (by decide +kernel) (by decide +kernel)), (gw_of (i := 672) (by decide +kernel) (by decide +kernel)), by decide +kernel⟩
theorem mL_60 : MV "EmptyLegsLaw" 60 RX10 yX10_replan cX10_replan 2 (some .int) 0 := ⟨(gw_of (i := 673) (by decide +kernel) (by decide +kernel)), (gw_of (i := 674) (by decide +kernel) (by decide +kernel)), (gw_of (i := 675) (by decide +kernel) (by decide +kernel)), (gw_of (i := 41) (by decide +kernel) (by decide +kernel)), (gw_of (i := 676) (by decide +kernel) (by decide +kernel)), by decide +kernel⟩
theorem mL_64 : MV "EmptyLegsLaw" 64 RX10 yX10_fits cX10_fits 1 (some .int) 0 := ⟨(gw_of (i := 677) (by decide +kernel) (by decide +kernel)), (gw_of (i := 678) (by decide +kernel) (by decide +kernel)), (gw_of (i := 679) (by decide +kernel) (by decide +kernel)), (gw_of (i := 41) (by decide +kernel) (by decide +kernel)), (gw_of (i := 680) (by decide +kernel) (by decide +kernel)), by decide +kernel⟩
theorem mX10_172 : MV RX10 172 RX5 yX5_holds cX5_holds 4 (some .boolean) 0 := ⟨(gw_of (i := 681) (by decide +kernel) (by decide +kernel)), (gw_of (i := 682) (by decide +kernel) (by decide +kernel)), (gw_of (i := 683) (by decide +kernel) (by decide +kernel)), (gw_of (i := 49) (by decide +kernel) (by decide +kernel)), (gw_of (i := 684) (by decide +kernel) (by decide +kernel)), by decide +kernel⟩
theorem mL_68 : MV "EmptyLegsLaw" 68 RX10 yX10_on cX10_on 2 (some .int) 1 := ⟨(gw_of (i := 685) (by decide +kernel) (by decide +kernel)), (gw_of (i := 686) (by decide +kernel) (by decide +kernel)), (gw_of (i := 687) (by decide +kernel) (by decide +kernel)), (gw_of (i := 41) (by decide +kernel) (by decide +kernel)), (gw_of (i := 688) (by decide +kernel) (by decide +kernel)), by decide +kernel⟩
theorem mX10_175 : MV RX10 175 RX6 yX6_planeOf cX6_planeOf 2 (some .int) 1 := ⟨(gw_of (i := 689) (by decide +kernel) (by decide +kernel)), (gw_of (i := 490) (by decide +kernel) (by decide +kernel)), (gw_of (i := 491) (by decide +kernel) (by decide +kernel)), (gw_of (i := 48) (by decide +kernel) (by decide +kernel)), (gw_of (i := 492) (by decide +kernel) (by decide +kernel)), by decide +kernel⟩
theorem mL_73 : MV "EmptyLegsLaw" 73 RX10 yX10_move cX10_move 6 (some .int) 3 := ⟨(gw_of (i := 690) (by decide +kernel) (by decide +kernel)), (gw_of (i := 691) (by decide +kernel) (by decide +kernel)), (gw_of (i := 692) (by decide +kernel) (by decide +kernel)), (gw_of (i := 41) (by decide +kernel) (by decide +kernel)), (gw_of (i := 693) (by decide +kernel) (by decide +kernel)), by decide +kernel⟩
theorem mX10_178 : MV RX10 178 RX6 yX6_flightAt cX6_flightAt 6 (some .int) 2 := ⟨(gw_of (i := 694) (by decide +kernel) (by decide +kernel)), (gw_of (i := 695) (by decide +kernel) (by decide +kernel)), (gw_of (i := 696) (by decide +kernel) (by decide +kernel)), (gw_of (i := 48) (by decide +kernel) (by decide +kernel)), (gw_of (i := 697) (by decide +kernel) (by decide +kernel)), by decide +kernel⟩
theorem mX6_70 : MV RX6 70 RX4 yX4_has cX4_has 2 (some .boolean) 1 := ⟨(gw_of (i := 698) (by decide +kernel) (by decide +kernel)), (gw_of (i := 507) (by decide +kernel) (by decide +kernel)), (gw_of (i := 508) (by decide +kernel) (by decide +kernel)), (gw_of (i := 45) (by decide +kernel) (by decide +kernel)), (gw_of (i := 509) (by decide +kernel) (by decide +kernel)), by decide +kernel⟩
theorem mX6_67 : MV RX6 67 RX6 yX6_hasLeg cX6_hasLeg 2 (some .boolean) 1 := ⟨(gw_of (i := 699) (by decide +kernel) (by decide +kernel)), (gw_of (i := 494) (by decide +kernel) (by decide +kernel)), (gw_of (i := 495) (by decide +kernel) (by decide +kernel)), (gw_of (i := 48) (by decide +kernel) (by decide +kernel)), (gw_of (i := 496) (by decide +kernel) (by decide +kernel)), by decide +kernel⟩
theorem mX10_181 : MV RX10 181 RX10 yX10_flownMove cX10_flownMove 3 (some .int) 2 := ⟨(gw_of (i := 700) (by decide +kernel) (by decide +kernel)), (gw_of (i := 702) (by decide +kernel) (by decide +kernel)), (gw_of (i := 15) (by decide +kernel) (by decide +kernel)), (gw_of (i := 41) (by decide +kernel) (by decide +kernel)), (gw_of (i := 703) (by decide +kernel) (by decide +kernel)), by decide +kernel⟩
theorem mX10_245 : MV RX10 245 RX1 yX1_fromOf cX1_fromOf 2 (some .int) 1 := ⟨(gw_of (i := 704) (by decide +kernel) (by decide +kernel)), (gw_of (i := 523) (by decide +kernel) (by decide +kernel)), (gw_of (i := 524) (by decide +kernel) (by decide +kernel)), (gw_of (i := 46) (by decide +kernel) (by decide +kernel)), (gw_of (i := 525) (by decide +kernel) (by decide +kernel)), by decide +kernel⟩
theorem mX10_248 : MV RX10 248 RX1 yX1_toOf cX1_toOf 2 (some .int) 1 := ⟨(gw_of (i := 705) (by decide +kernel) (by decide +kernel)), (gw_of (i := 519) (by decide +kernel) (by decide +kernel)), (gw_of (i := 520) (by decide +kernel) (by decide +kernel)), (gw_of (i := 46) (by decide +kernel) (by decide +kernel)), (gw_of (i := 521) (by decide +kernel) (by decide +kernel)), by decide +kernel⟩
theorem mX10_251 : MV RX10 251 RX1 yX1_startOf cX1_startOf 2 (some .int) 1 := ⟨(gw_of (i := 706) (by decide +kernel) (by decide +kernel)), (gw_of (i := 460) (by decide +kernel) (by decide +kernel)), (gw_of (i := 461) (by decide +kernel) (by decide +kernel)), (gw_of (i := 46) (by decide +kernel) (by decide +kernel)), (gw_of (i := 462) (by decide +kernel) (by decide +kernel)), by decide +kernel⟩
theorem mX10_221 : MV RX10 221 RX6 yX6_minutesOf cX6_minutesOf 2 (some .int) 1 := ⟨(gw_of (i := 707) (by decide +kernel) (by decide +kernel)), (gw_of (i := 708) (by decide +kernel) (by decide +kernel)), (gw_of (i := 709) (by decide +kernel) (by decide +kernel)), (gw_of (i := 48) (by decide +kernel) (by decide +kernel)), (gw_of (i := 710) (by decide +kernel) (by decide +kernel)), by decide +kernel⟩
theorem mX6_50 : MV RX6 50 RX9 yX9_minutes cX9_minutes 3 (some .int) 2 := ⟨(gw_of (i := 711) (by decide +kernel) (by decide +kernel)), (gw_of (i := 445) (by decide +kernel) (by decide +kernel)), (gw_of (i := 446) (by decide +kernel) (by decide +kernel)), (gw_of (i := 44) (by decide +kernel) (by decide +kernel)), (gw_of (i := 447) (by decide +kernel) (by decide +kernel)), by decide +kernel⟩
theorem mX10_184 : MV RX10 184 RX6 yX6_legAt cX6_legAt 4 (some .int) 2 := ⟨(gw_of (i := 712) (by decide +kernel) (by decide +kernel)), (gw_of (i := 713) (by decide +kernel) (by decide +kernel)), (gw_of (i := 714) (by decide +kernel) (by decide +kernel)), (gw_of (i := 48) (by decide +kernel) (by decide +kernel)), (gw_of (i := 715) (by decide +kernel) (by decide +kernel)), by decide +kernel⟩
theorem mX6_74 : MV RX6 74 RX6 yX6_flightAt cX6_flightAt 6 (some .int) 2 := ⟨(gw_of (i := 717) (by decide +kernel) (by decide +kernel)), (gw_of (i := 695) (by decide +kernel) (by decide +kernel)), (gw_of (i := 696) (by decide +kernel) (by decide +kernel)), (gw_of (i := 48) (by decide +kernel) (by decide +kernel)), (gw_of (i := 697) (by decide +kernel) (by decide +kernel)), by decide +kernel⟩
theorem mX10_187 : MV RX10 187 RX10 yX10_emptyMove cX10_emptyMove 5 (some .int) 2 := ⟨(gw_of (i := 718) (by decide +kernel) (by decide +kernel)), (gw_of (i := 720) (by decide +kernel) (by decide +kernel)), (gw_of (i := 16) (by decide +kernel) (by decide +kernel)), (gw_of (i := 41) (by decide +kernel) (by decide +kernel)), (gw_of (i := 721) (by decide +kernel) (by decide +kernel)), by decide +kernel⟩
theorem mX10_194 : MV RX10 194 RX6 yX6_placeAhead cX6_placeAhead 6 (some .int) 1 := ⟨(gw_of (i := 722) (by decide +kernel) (by decide +kernel)), (gw_of (i := 499) (by decide +kernel) (by decide +kernel)), (gw_of (i := 500) (by decide +kernel) (by decide +kernel)), (gw_of (i := 48) (by decide +kernel) (by decide +kernel)), (gw_of (i := 501) (by decide +kernel) (by decide +kernel)), by decide +kernel⟩
theorem mX10_227 : MV RX10 227 RX6 yX6_legMinutes cX6_legMinutes 2 (some .int) 1 := ⟨(gw_of (i := 723) (by decide +kernel) (by decide +kernel)), (gw_of (i := 724) (by decide +kernel) (by decide +kernel)), (gw_of (i := 725) (by decide +kernel) (by decide +kernel)), (gw_of (i := 48) (by decide +kernel) (by decide +kernel)), (gw_of (i := 726) (by decide +kernel) (by decide +kernel)), by decide +kernel⟩
theorem mX10_269 : MV RX10 269 RX4 yX4_turnOf cX4_turnOf 2 (some .int) 1 := ⟨(gw_of (i := 727) (by decide +kernel) (by decide +kernel)), (gw_of (i := 590) (by decide +kernel) (by decide +kernel)), (gw_of (i := 591) (by decide +kernel) (by decide +kernel)), (gw_of (i := 45) (by decide +kernel) (by decide +kernel)), (gw_of (i := 592) (by decide +kernel) (by decide +kernel)), by decide +kernel⟩
theorem mL_77 : MV "EmptyLegsLaw" 77 RX10 yX10_offer cX10_offer 6 (some .int) 4 := ⟨(gw_of (i := 728) (by decide +kernel) (by decide +kernel)), (gw_of (i := 729) (by decide +kernel) (by decide +kernel)), (gw_of (i := 730) (by decide +kernel) (by decide +kernel)), (gw_of (i := 41) (by decide +kernel) (by decide +kernel)), (gw_of (i := 731) (by decide +kernel) (by decide +kernel)), by decide +kernel⟩
theorem mX10_191 : MV RX10 191 RX3 yX3_isHeld cX3_isHeld 3 (some .boolean) 1 := ⟨(gw_of (i := 733) (by decide +kernel) (by decide +kernel)), (gw_of (i := 734) (by decide +kernel) (by decide +kernel)), (gw_of (i := 735) (by decide +kernel) (by decide +kernel)), (gw_of (i := 51) (by decide +kernel) (by decide +kernel)), (gw_of (i := 736) (by decide +kernel) (by decide +kernel)), by decide +kernel⟩
theorem mX10_197 : MV RX10 197 RX3 yX3_add cX3_add 6 (some .int) 5 := ⟨(gw_of (i := 737) (by decide +kernel) (by decide +kernel)), (gw_of (i := 738) (by decide +kernel) (by decide +kernel)), (gw_of (i := 739) (by decide +kernel) (by decide +kernel)), (gw_of (i := 51) (by decide +kernel) (by decide +kernel)), (gw_of (i := 740) (by decide +kernel) (by decide +kernel)), by decide +kernel⟩
theorem mL_81 : MV "EmptyLegsLaw" 81 RX10 yX10_take cX10_take 3 (some .boolean) 2 := ⟨(gw_of (i := 741) (by decide +kernel) (by decide +kernel)), (gw_of (i := 742) (by decide +kernel) (by decide +kernel)), (gw_of (i := 743) (by decide +kernel) (by decide +kernel)), (gw_of (i := 41) (by decide +kernel) (by decide +kernel)), (gw_of (i := 744) (by decide +kernel) (by decide +kernel)), by decide +kernel⟩
theorem mX10_200 : MV RX10 200 RX3 yX3_stateOf cX3_stateOf 2 (some .int) 1 := ⟨(gw_of (i := 745) (by decide +kernel) (by decide +kernel)), (gw_of (i := 532) (by decide +kernel) (by decide +kernel)), (gw_of (i := 533) (by decide +kernel) (by decide +kernel)), (gw_of (i := 51) (by decide +kernel) (by decide +kernel)), (gw_of (i := 534) (by decide +kernel) (by decide +kernel)), by decide +kernel⟩
theorem mX10_203 : MV RX10 203 RX3 yX3_sell cX3_sell 3 (none) 2 := ⟨(gw_of (i := 746) (by decide +kernel) (by decide +kernel)), (gw_of (i := 747) (by decide +kernel) (by decide +kernel)), (gw_of (i := 748) (by decide +kernel) (by decide +kernel)), (gw_of (i := 51) (by decide +kernel) (by decide +kernel)), (gw_of (i := 749) (by decide +kernel) (by decide +kernel)), by decide +kernel⟩
theorem mL_86 : MV "EmptyLegsLaw" 86 RX10 yX10_told cX10_told 3 (some .int) 2 := ⟨(gw_of (i := 750) (by decide +kernel) (by decide +kernel)), (gw_of (i := 751) (by decide +kernel) (by decide +kernel)), (gw_of (i := 752) (by decide +kernel) (by decide +kernel)), (gw_of (i := 41) (by decide +kernel) (by decide +kernel)), (gw_of (i := 753) (by decide +kernel) (by decide +kernel)), by decide +kernel⟩
theorem mX10_206 : MV RX10 206 RX3 yX3_priceOf cX3_priceOf 2 (some .int) 1 := ⟨(gw_of (i := 754) (by decide +kernel) (by decide +kernel)), (gw_of (i := 755) (by decide +kernel) (by decide +kernel)), (gw_of (i := 756) (by decide +kernel) (by decide +kernel)), (gw_of (i := 51) (by decide +kernel) (by decide +kernel)), (gw_of (i := 757) (by decide +kernel) (by decide +kernel)), by decide +kernel⟩
theorem mX10_209 : MV RX10 209 RX3 yX3_tillOf cX3_tillOf 2 (some .int) 1 := ⟨(gw_of (i := 758) (by decide +kernel) (by decide +kernel)), (gw_of (i := 759) (by decide +kernel) (by decide +kernel)), (gw_of (i := 760) (by decide +kernel) (by decide +kernel)), (gw_of (i := 51) (by decide +kernel) (by decide +kernel)), (gw_of (i := 761) (by decide +kernel) (by decide +kernel)), by decide +kernel⟩
theorem mX10_212 : MV RX10 212 RX3 yX3_clientOf cX3_clientOf 2 (some .int) 1 := ⟨(gw_of (i := 762) (by decide +kernel) (by decide +kernel)), (gw_of (i := 763) (by decide +kernel) (by decide +kernel)), (gw_of (i := 764) (by decide +kernel) (by decide +kernel)), (gw_of (i := 51) (by decide +kernel) (by decide +kernel)), (gw_of (i := 765) (by decide +kernel) (by decide +kernel)), by decide +kernel⟩
theorem mX10_215 : MV RX10 215 RX3 yX3_planeOf cX3_planeOf 2 (some .int) 1 := ⟨(gw_of (i := 766) (by decide +kernel) (by decide +kernel)), (gw_of (i := 767) (by decide +kernel) (by decide +kernel)), (gw_of (i := 768) (by decide +kernel) (by decide +kernel)), (gw_of (i := 51) (by decide +kernel) (by decide +kernel)), (gw_of (i := 769) (by decide +kernel) (by decide +kernel)), by decide +kernel⟩
theorem mX10_216 : MV RX10 216 RX3 yX3_flightOf cX3_flightOf 2 (some .int) 1 := ⟨(gw_of (i := 770) (by decide +kernel) (by decide +kernel)), (gw_of (i := 771) (by decide +kernel) (by decide +kernel)), (gw_of (i := 772) (by decide +kernel) (by decide +kernel)), (gw_of (i := 51) (by decide +kernel) (by decide +kernel)), (gw_of (i := 773) (by decide +kernel) (by decide +kernel)), by decide +kernel⟩
theorem mL_90 : MV "EmptyLegsLaw" 90 RX10 yX10_bill cX10_bill 6 (some .long) 1 := ⟨(gw_of (i := 774) (by decide +kernel) (by decide +kernel)), (gw_of (i := 775) (by decide +kernel) (by decide +kernel)), (gw_of (i := 776) (by decide +kernel) (by decide +kernel)), (gw_of (i := 41) (by decide +kernel) (by decide +kernel)), (gw_of (i := 777) (by decide +kernel) (by decide +kernel)), by decide +kernel⟩
theorem mX10_224 : MV RX10 224 RX6 yX6_hasLeg cX6_hasLeg 2 (some .boolean) 1 := ⟨(gw_of (i := 779) (by decide +kernel) (by decide +kernel)), (gw_of (i := 494) (by decide +kernel) (by decide +kernel)), (gw_of (i := 495) (by decide +kernel) (by decide +kernel)), (gw_of (i := 48) (by decide +kernel) (by decide +kernel)), (gw_of (i := 496) (by decide +kernel) (by decide +kernel)), by decide +kernel⟩
theorem mX10_230 : MV RX10 230 RX4 yX4_rateOf cX4_rateOf 2 (some .int) 1 := ⟨(gw_of (i := 780) (by decide +kernel) (by decide +kernel)), (gw_of (i := 781) (by decide +kernel) (by decide +kernel)), (gw_of (i := 782) (by decide +kernel) (by decide +kernel)), (gw_of (i := 45) (by decide +kernel) (by decide +kernel)), (gw_of (i := 783) (by decide +kernel) (by decide +kernel)), by decide +kernel⟩
theorem mX10_233 : MV RX10 233 RX3 yX3_takenPrice cX3_takenPrice 3 (some .int) 1 := ⟨(gw_of (i := 784) (by decide +kernel) (by decide +kernel)), (gw_of (i := 785) (by decide +kernel) (by decide +kernel)), (gw_of (i := 786) (by decide +kernel) (by decide +kernel)), (gw_of (i := 51) (by decide +kernel) (by decide +kernel)), (gw_of (i := 787) (by decide +kernel) (by decide +kernel)), by decide +kernel⟩
theorem mL_95 : MV "EmptyLegsLaw" 95 RX10 yX10_look cX10_look 3 (some .int) 2 := ⟨(gw_of (i := 791) (by decide +kernel) (by decide +kernel)), (gw_of (i := 792) (by decide +kernel) (by decide +kernel)), (gw_of (i := 793) (by decide +kernel) (by decide +kernel)), (gw_of (i := 41) (by decide +kernel) (by decide +kernel)), (gw_of (i := 794) (by decide +kernel) (by decide +kernel)), by decide +kernel⟩
theorem mX10_242 : MV RX10 242 RX1 yX1_has cX1_has 2 (some .boolean) 1 := ⟨(gw_of (i := 795) (by decide +kernel) (by decide +kernel)), (gw_of (i := 464) (by decide +kernel) (by decide +kernel)), (gw_of (i := 465) (by decide +kernel) (by decide +kernel)), (gw_of (i := 46) (by decide +kernel) (by decide +kernel)), (gw_of (i := 466) (by decide +kernel) (by decide +kernel)), by decide +kernel⟩
theorem mX10_254 : MV RX10 254 RX1 yX1_seatsOf cX1_seatsOf 2 (some .int) 1 := ⟨(gw_of (i := 796) (by decide +kernel) (by decide +kernel)), (gw_of (i := 629) (by decide +kernel) (by decide +kernel)), (gw_of (i := 630) (by decide +kernel) (by decide +kernel)), (gw_of (i := 46) (by decide +kernel) (by decide +kernel)), (gw_of (i := 631) (by decide +kernel) (by decide +kernel)), by decide +kernel⟩
theorem mL_99 : MV "EmptyLegsLaw" 99 RX10 yX10_count cX10_count 2 (some .int) 1 := ⟨(gw_of (i := 797) (by decide +kernel) (by decide +kernel)), (gw_of (i := 798) (by decide +kernel) (by decide +kernel)), (gw_of (i := 799) (by decide +kernel) (by decide +kernel)), (gw_of (i := 41) (by decide +kernel) (by decide +kernel)), (gw_of (i := 800) (by decide +kernel) (by decide +kernel)), by decide +kernel⟩
theorem mX10_257 : MV RX10 257 RX4 yX4_size cX4_size 1 (some .int) 0 := ⟨(gw_of (i := 801) (by decide +kernel) (by decide +kernel)), (gw_of (i := 574) (by decide +kernel) (by decide +kernel)), (gw_of (i := 575) (by decide +kernel) (by decide +kernel)), (gw_of (i := 45) (by decide +kernel) (by decide +kernel)), (gw_of (i := 576) (by decide +kernel) (by decide +kernel)), by decide +kernel⟩
theorem mX10_260 : MV RX10 260 RX1 yX1_size cX1_size 1 (some .int) 0 := ⟨(gw_of (i := 802) (by decide +kernel) (by decide +kernel)), (gw_of (i := 511) (by decide +kernel) (by decide +kernel)), (gw_of (i := 512) (by decide +kernel) (by decide +kernel)), (gw_of (i := 46) (by decide +kernel) (by decide +kernel)), (gw_of (i := 513) (by decide +kernel) (by decide +kernel)), by decide +kernel⟩
theorem mX10_261 : MV RX10 261 RX1 yX1_live cX1_live 1 (some .int) 0 := ⟨(gw_of (i := 803) (by decide +kernel) (by decide +kernel)), (gw_of (i := 804) (by decide +kernel) (by decide +kernel)), (gw_of (i := 805) (by decide +kernel) (by decide +kernel)), (gw_of (i := 46) (by decide +kernel) (by decide +kernel)), (gw_of (i := 806) (by decide +kernel) (by decide +kernel)), by decide +kernel⟩
theorem mX10_264 : MV RX10 264 RX6 yX6_emptyMinutes cX6_emptyMinutes 3 (some .int) 0 := ⟨(gw_of (i := 807) (by decide +kernel) (by decide +kernel)), (gw_of (i := 808) (by decide +kernel) (by decide +kernel)), (gw_of (i := 809) (by decide +kernel) (by decide +kernel)), (gw_of (i := 48) (by decide +kernel) (by decide +kernel)), (gw_of (i := 810) (by decide +kernel) (by decide +kernel)), by decide +kernel⟩
theorem mX6_41 : MV RX6 41 RX6 yX6_legMinutes cX6_legMinutes 2 (some .int) 1 := ⟨(gw_of (i := 811) (by decide +kernel) (by decide +kernel)), (gw_of (i := 724) (by decide +kernel) (by decide +kernel)), (gw_of (i := 725) (by decide +kernel) (by decide +kernel)), (gw_of (i := 48) (by decide +kernel) (by decide +kernel)), (gw_of (i := 726) (by decide +kernel) (by decide +kernel)), by decide +kernel⟩
theorem mX10_267 : MV RX10 267 RX7 yX7_size cX7_size 1 (some .int) 0 := ⟨(gw_of (i := 812) (by decide +kernel) (by decide +kernel)), (gw_of (i := 813) (by decide +kernel) (by decide +kernel)), (gw_of (i := 814) (by decide +kernel) (by decide +kernel)), (gw_of (i := 47) (by decide +kernel) (by decide +kernel)), (gw_of (i := 815) (by decide +kernel) (by decide +kernel)), by decide +kernel⟩
theorem mX10_268 : MV RX10 268 RX3 yX3_size cX3_size 1 (some .int) 0 := ⟨(gw_of (i := 816) (by decide +kernel) (by decide +kernel)), (gw_of (i := 817) (by decide +kernel) (by decide +kernel)), (gw_of (i := 818) (by decide +kernel) (by decide +kernel)), (gw_of (i := 51) (by decide +kernel) (by decide +kernel)), (gw_of (i := 819) (by decide +kernel) (by decide +kernel)), by decide +kernel⟩
theorem mL_17 : MV "EmptyLegsLaw" 17 RX11 yX11_feed cX11_feed 6 (some .int) 5 := ⟨(gw_of (i := 969) (by decide +kernel) (by decide +kernel)), (gw_of (i := 970) (by decide +kernel) (by decide +kernel)), (gw_of (i := 971) (by decide +kernel) (by decide +kernel)), (gw_of (i := 52) (by decide +kernel) (by decide +kernel)), (gw_of (i := 972) (by decide +kernel) (by decide +kernel)), by decide +kernel⟩
theorem mX11_127 : MV RX11 127 RX11 yX11_push cX11_push 3 (none) 1 := ⟨(gw_of (i := 973) (by decide +kernel) (by decide +kernel)), (gw_of (i := 975) (by decide +kernel) (by decide +kernel)), (gw_of (i := 17) (by decide +kernel) (by decide +kernel)), (gw_of (i := 52) (by decide +kernel) (by decide +kernel)), (gw_of (i := 976) (by decide +kernel) (by decide +kernel)), by decide +kernel⟩
theorem mL_22 : MV "EmptyLegsLaw" 22 RX11 yX11_law cX11_law 4 (some .int) 2 := ⟨(gw_of (i := 977) (by decide +kernel) (by decide +kernel)), (gw_of (i := 978) (by decide +kernel) (by decide +kernel)), (gw_of (i := 979) (by decide +kernel) (by decide +kernel)), (gw_of (i := 52) (by decide +kernel) (by decide +kernel)), (gw_of (i := 980) (by decide +kernel) (by decide +kernel)), by decide +kernel⟩
theorem mX11_141 : MS RX11 141 yX11_lies cX11_lies 3 (some .boolean) 3 := ⟨(gw_of (i := 981) (by decide +kernel) (by decide +kernel)), (gw_of (i := 982) (by decide +kernel) (by decide +kernel)), (gw_of (i := 52) (by decide +kernel) (by decide +kernel)), (gw_of (i := 983) (by decide +kernel) (by decide +kernel)), by decide +kernel⟩
theorem mX11_145 : MV RX11 145 RX11 yX11_reads cX11_reads 7 (some .int) 1 := ⟨(gw_of (i := 984) (by decide +kernel) (by decide +kernel)), (gw_of (i := 986) (by decide +kernel) (by decide +kernel)), (gw_of (i := 18) (by decide +kernel) (by decide +kernel)), (gw_of (i := 52) (by decide +kernel) (by decide +kernel)), (gw_of (i := 987) (by decide +kernel) (by decide +kernel)), by decide +kernel⟩
theorem mX11_137 : MV RX11 137 RX11 yX11_at cX11_at 3 (some .int) 2 := ⟨(gw_of (i := 988) (by decide +kernel) (by decide +kernel)), (gw_of (i := 990) (by decide +kernel) (by decide +kernel)), (gw_of (i := 19) (by decide +kernel) (by decide +kernel)), (gw_of (i := 52) (by decide +kernel) (by decide +kernel)), (gw_of (i := 991) (by decide +kernel) (by decide +kernel)), by decide +kernel⟩
theorem mL_26 : MV "EmptyLegsLaw" 26 RX11 yX11_rule cX11_rule 3 (some .int) 2 := ⟨(gw_of (i := 992) (by decide +kernel) (by decide +kernel)), (gw_of (i := 993) (by decide +kernel) (by decide +kernel)), (gw_of (i := 994) (by decide +kernel) (by decide +kernel)), (gw_of (i := 52) (by decide +kernel) (by decide +kernel)), (gw_of (i := 995) (by decide +kernel) (by decide +kernel)), by decide +kernel⟩
theorem mX11_149 : MV RX11 149 RX11 yX11_dutyOn cX11_dutyOn 4 (some .int) 1 := ⟨(gw_of (i := 996) (by decide +kernel) (by decide +kernel)), (gw_of (i := 998) (by decide +kernel) (by decide +kernel)), (gw_of (i := 20) (by decide +kernel) (by decide +kernel)), (gw_of (i := 52) (by decide +kernel) (by decide +kernel)), (gw_of (i := 999) (by decide +kernel) (by decide +kernel)), by decide +kernel⟩
theorem mX11_152 : MV RX11 152 RX11 yX11_restOn cX11_restOn 4 (some .int) 1 := ⟨(gw_of (i := 1000) (by decide +kernel) (by decide +kernel)), (gw_of (i := 1002) (by decide +kernel) (by decide +kernel)), (gw_of (i := 21) (by decide +kernel) (by decide +kernel)), (gw_of (i := 52) (by decide +kernel) (by decide +kernel)), (gw_of (i := 1003) (by decide +kernel) (by decide +kernel)), by decide +kernel⟩
theorem mL_31 : MV "EmptyLegsLaw" 31 RX11 yX11_way cX11_way 5 (some .boolean) 3 := ⟨(gw_of (i := 1004) (by decide +kernel) (by decide +kernel)), (gw_of (i := 1005) (by decide +kernel) (by decide +kernel)), (gw_of (i := 1006) (by decide +kernel) (by decide +kernel)), (gw_of (i := 52) (by decide +kernel) (by decide +kernel)), (gw_of (i := 1007) (by decide +kernel) (by decide +kernel)), by decide +kernel⟩
theorem mX11_155 : MS RX11 155 yX11_areTwo cX11_areTwo 2 (some .boolean) 2 := ⟨(gw_of (i := 1008) (by decide +kernel) (by decide +kernel)), (gw_of (i := 1009) (by decide +kernel) (by decide +kernel)), (gw_of (i := 52) (by decide +kernel) (by decide +kernel)), (gw_of (i := 1010) (by decide +kernel) (by decide +kernel)), by decide +kernel⟩
theorem mL_36 : MV "EmptyLegsLaw" 36 RX11 yX11_plane cX11_plane 5 (some .int) 4 := ⟨(gw_of (i := 1011) (by decide +kernel) (by decide +kernel)), (gw_of (i := 1012) (by decide +kernel) (by decide +kernel)), (gw_of (i := 1013) (by decide +kernel) (by decide +kernel)), (gw_of (i := 52) (by decide +kernel) (by decide +kernel)), (gw_of (i := 1014) (by decide +kernel) (by decide +kernel)), by decide +kernel⟩
theorem mL_40 : MV "EmptyLegsLaw" 40 RX11 yX11_flight cX11_flight 5 (some .int) 4 := ⟨(gw_of (i := 1015) (by decide +kernel) (by decide +kernel)), (gw_of (i := 1016) (by decide +kernel) (by decide +kernel)), (gw_of (i := 1017) (by decide +kernel) (by decide +kernel)), (gw_of (i := 52) (by decide +kernel) (by decide +kernel)), (gw_of (i := 1018) (by decide +kernel) (by decide +kernel)), by decide +kernel⟩
theorem mX11_165 : MV RX11 165 RX11 yX11_minutes cX11_minutes 3 (some .int) 2 := ⟨(gw_of (i := 1019) (by decide +kernel) (by decide +kernel)), (gw_of (i := 1021) (by decide +kernel) (by decide +kernel)), (gw_of (i := 22) (by decide +kernel) (by decide +kernel)), (gw_of (i := 52) (by decide +kernel) (by decide +kernel)), (gw_of (i := 1022) (by decide +kernel) (by decide +kernel)), by decide +kernel⟩
theorem mX11_168 : MV RX11 168 RX11 yX11_there cX11_there 3 (some .int) 0 := ⟨(gw_of (i := 1023) (by decide +kernel) (by decide +kernel)), (gw_of (i := 1025) (by decide +kernel) (by decide +kernel)), (gw_of (i := 23) (by decide +kernel) (by decide +kernel)), (gw_of (i := 52) (by decide +kernel) (by decide +kernel)), (gw_of (i := 1026) (by decide +kernel) (by decide +kernel)), by decide +kernel⟩
theorem mL_45 : MV "EmptyLegsLaw" 45 RX11 yX11_cancel cX11_cancel 2 (some .boolean) 1 := ⟨(gw_of (i := 1027) (by decide +kernel) (by decide +kernel)), (gw_of (i := 1028) (by decide +kernel) (by decide +kernel)), (gw_of (i := 1029) (by decide +kernel) (by decide +kernel)), (gw_of (i := 52) (by decide +kernel) (by decide +kernel)), (gw_of (i := 1030) (by decide +kernel) (by decide +kernel)), by decide +kernel⟩
theorem mX11_172 : MV RX11 172 RX11 yX11_isFlight cX11_isFlight 2 (some .boolean) 1 := ⟨(gw_of (i := 1031) (by decide +kernel) (by decide +kernel)), (gw_of (i := 1033) (by decide +kernel) (by decide +kernel)), (gw_of (i := 24) (by decide +kernel) (by decide +kernel)), (gw_of (i := 52) (by decide +kernel) (by decide +kernel)), (gw_of (i := 1034) (by decide +kernel) (by decide +kernel)), by decide +kernel⟩
theorem mX11_176 : MV RX11 176 RX11 yX11_breaks cX11_breaks 2 (none) 0 := ⟨(gw_of (i := 1035) (by decide +kernel) (by decide +kernel)), (gw_of (i := 1037) (by decide +kernel) (by decide +kernel)), (gw_of (i := 25) (by decide +kernel) (by decide +kernel)), (gw_of (i := 52) (by decide +kernel) (by decide +kernel)), (gw_of (i := 1038) (by decide +kernel) (by decide +kernel)), by decide +kernel⟩
theorem mX11_233 : MV RX11 233 RX11 yX11_binds cX11_binds 2 (some .boolean) 1 := ⟨(gw_of (i := 1039) (by decide +kernel) (by decide +kernel)), (gw_of (i := 1041) (by decide +kernel) (by decide +kernel)), (gw_of (i := 26) (by decide +kernel) (by decide +kernel)), (gw_of (i := 52) (by decide +kernel) (by decide +kernel)), (gw_of (i := 1042) (by decide +kernel) (by decide +kernel)), by decide +kernel⟩
theorem mX11_236 : MV RX11 236 RX11 yX11_hasLeg cX11_hasLeg 3 (some .boolean) 1 := ⟨(gw_of (i := 1043) (by decide +kernel) (by decide +kernel)), (gw_of (i := 1045) (by decide +kernel) (by decide +kernel)), (gw_of (i := 27) (by decide +kernel) (by decide +kernel)), (gw_of (i := 52) (by decide +kernel) (by decide +kernel)), (gw_of (i := 1046) (by decide +kernel) (by decide +kernel)), by decide +kernel⟩
theorem mX11_227 : MV RX11 227 RX11 yX11_hand cX11_hand 4 (none) 1 := ⟨(gw_of (i := 1047) (by decide +kernel) (by decide +kernel)), (gw_of (i := 1049) (by decide +kernel) (by decide +kernel)), (gw_of (i := 28) (by decide +kernel) (by decide +kernel)), (gw_of (i := 52) (by decide +kernel) (by decide +kernel)), (gw_of (i := 1050) (by decide +kernel) (by decide +kernel)), by decide +kernel⟩
theorem mX11_201 : MV RX11 201 RX11 yX11_orders cX11_orders 3 (none) 0 := ⟨(gw_of (i := 1051) (by decide +kernel) (by decide +kernel)), (gw_of (i := 1053) (by decide +kernel) (by decide +kernel)), (gw_of (i := 29) (by decide +kernel) (by decide +kernel)), (gw_of (i := 52) (by decide +kernel) (by decide +kernel)), (gw_of (i := 1054) (by decide +kernel) (by decide +kernel)), by decide +kernel⟩
theorem mX11_204 : MV RX11 204 RX11 yX11_chains cX11_chains 7 (none) 2 := ⟨(gw_of (i := 1055) (by decide +kernel) (by decide +kernel)), (gw_of (i := 1057) (by decide +kernel) (by decide +kernel)), (gw_of (i := 30) (by decide +kernel) (by decide +kernel)), (gw_of (i := 52) (by decide +kernel) (by decide +kernel)), (gw_of (i := 1058) (by decide +kernel) (by decide +kernel)), by decide +kernel⟩
theorem mX11_194 : MV RX11 194 RX11 yX11_adds cX11_adds 7 (none) 6 := ⟨(gw_of (i := 1059) (by decide +kernel) (by decide +kernel)), (gw_of (i := 1061) (by decide +kernel) (by decide +kernel)), (gw_of (i := 31) (by decide +kernel) (by decide +kernel)), (gw_of (i := 52) (by decide +kernel) (by decide +kernel)), (gw_of (i := 1062) (by decide +kernel) (by decide +kernel)), by decide +kernel⟩
theorem mX11_230 : MV RX11 230 RX11 yX11_isLeg cX11_isLeg 3 (some .boolean) 2 := ⟨(gw_of (i := 1063) (by decide +kernel) (by decide +kernel)), (gw_of (i := 1065) (by decide +kernel) (by decide +kernel)), (gw_of (i := 32) (by decide +kernel) (by decide +kernel)), (gw_of (i := 52) (by decide +kernel) (by decide +kernel)), (gw_of (i := 1066) (by decide +kernel) (by decide +kernel)), by decide +kernel⟩
theorem mL_50 : MV "EmptyLegsLaw" 50 RX11 yX11_storm cX11_storm 4 (some .int) 3 := ⟨(gw_of (i := 1067) (by decide +kernel) (by decide +kernel)), (gw_of (i := 1068) (by decide +kernel) (by decide +kernel)), (gw_of (i := 1069) (by decide +kernel) (by decide +kernel)), (gw_of (i := 52) (by decide +kernel) (by decide +kernel)), (gw_of (i := 1070) (by decide +kernel) (by decide +kernel)), by decide +kernel⟩
theorem mL_54 : MV "EmptyLegsLaw" 54 RX11 yX11_clock cX11_clock 3 (some .boolean) 1 := ⟨(gw_of (i := 1071) (by decide +kernel) (by decide +kernel)), (gw_of (i := 1072) (by decide +kernel) (by decide +kernel)), (gw_of (i := 1073) (by decide +kernel) (by decide +kernel)), (gw_of (i := 52) (by decide +kernel) (by decide +kernel)), (gw_of (i := 1074) (by decide +kernel) (by decide +kernel)), by decide +kernel⟩
theorem mL_59 : MV "EmptyLegsLaw" 59 RX11 yX11_plan cX11_plan 2 (some .int) 0 := ⟨(gw_of (i := 1075) (by decide +kernel) (by decide +kernel)), (gw_of (i := 1076) (by decide +kernel) (by decide +kernel)), (gw_of (i := 1077) (by decide +kernel) (by decide +kernel)), (gw_of (i := 52) (by decide +kernel) (by decide +kernel)), (gw_of (i := 1078) (by decide +kernel) (by decide +kernel)), by decide +kernel⟩
theorem mX11_220 : MV RX11 220 RX11 yX11_finds cX11_finds 14 (some .int) 1 := ⟨(gw_of (i := 1079) (by decide +kernel) (by decide +kernel)), (gw_of (i := 1081) (by decide +kernel) (by decide +kernel)), (gw_of (i := 33) (by decide +kernel) (by decide +kernel)), (gw_of (i := 52) (by decide +kernel) (by decide +kernel)), (gw_of (i := 1082) (by decide +kernel) (by decide +kernel)), by decide +kernel⟩
theorem mX11_214 : MV RX11 214 RX11 yX11_works cX11_works 3 (none) 0 := ⟨(gw_of (i := 1083) (by decide +kernel) (by decide +kernel)), (gw_of (i := 1085) (by decide +kernel) (by decide +kernel)), (gw_of (i := 34) (by decide +kernel) (by decide +kernel)), (gw_of (i := 52) (by decide +kernel) (by decide +kernel)), (gw_of (i := 1086) (by decide +kernel) (by decide +kernel)), by decide +kernel⟩
theorem mX11_208 : MV RX11 208 RX11 yX11_holds cX11_holds 4 (some .boolean) 1 := ⟨(gw_of (i := 1087) (by decide +kernel) (by decide +kernel)), (gw_of (i := 1089) (by decide +kernel) (by decide +kernel)), (gw_of (i := 35) (by decide +kernel) (by decide +kernel)), (gw_of (i := 52) (by decide +kernel) (by decide +kernel)), (gw_of (i := 1090) (by decide +kernel) (by decide +kernel)), by decide +kernel⟩
theorem mX11_198 : MV RX11 198 RX11 yX11_isStorm cX11_isStorm 4 (some .boolean) 2 := ⟨(gw_of (i := 1091) (by decide +kernel) (by decide +kernel)), (gw_of (i := 1093) (by decide +kernel) (by decide +kernel)), (gw_of (i := 36) (by decide +kernel) (by decide +kernel)), (gw_of (i := 52) (by decide +kernel) (by decide +kernel)), (gw_of (i := 1094) (by decide +kernel) (by decide +kernel)), by decide +kernel⟩
theorem mX11_211 : MV RX11 211 RX11 yX11_emptyMinutes cX11_emptyMinutes 3 (some .int) 0 := ⟨(gw_of (i := 1095) (by decide +kernel) (by decide +kernel)), (gw_of (i := 1097) (by decide +kernel) (by decide +kernel)), (gw_of (i := 37) (by decide +kernel) (by decide +kernel)), (gw_of (i := 52) (by decide +kernel) (by decide +kernel)), (gw_of (i := 1098) (by decide +kernel) (by decide +kernel)), by decide +kernel⟩
theorem mX11_217 : MV RX11 217 RX11 yX11_isMoved cX11_isMoved 2 (some .int) 1 := ⟨(gw_of (i := 1099) (by decide +kernel) (by decide +kernel)), (gw_of (i := 1101) (by decide +kernel) (by decide +kernel)), (gw_of (i := 38) (by decide +kernel) (by decide +kernel)), (gw_of (i := 52) (by decide +kernel) (by decide +kernel)), (gw_of (i := 1102) (by decide +kernel) (by decide +kernel)), by decide +kernel⟩
theorem mX11_224 : MV RX11 224 RX11 yX11_flown cX11_flown 3 (some .int) 0 := ⟨(gw_of (i := 1103) (by decide +kernel) (by decide +kernel)), (gw_of (i := 1105) (by decide +kernel) (by decide +kernel)), (gw_of (i := 39) (by decide +kernel) (by decide +kernel)), (gw_of (i := 52) (by decide +kernel) (by decide +kernel)), (gw_of (i := 1106) (by decide +kernel) (by decide +kernel)), by decide +kernel⟩
theorem mL_63 : MV "EmptyLegsLaw" 63 RX11 yX11_replan cX11_replan 1 (some .int) 0 := ⟨(gw_of (i := 1107) (by decide +kernel) (by decide +kernel)), (gw_of (i := 1108) (by decide +kernel) (by decide +kernel)), (gw_of (i := 1109) (by decide +kernel) (by decide +kernel)), (gw_of (i := 52) (by decide +kernel) (by decide +kernel)), (gw_of (i := 1110) (by decide +kernel) (by decide +kernel)), by decide +kernel⟩
theorem mL_67 : MV "EmptyLegsLaw" 67 RX11 yX11_fits cX11_fits 2 (some .int) 0 := ⟨(gw_of (i := 1111) (by decide +kernel) (by decide +kernel)), (gw_of (i := 1112) (by decide +kernel) (by decide +kernel)), (gw_of (i := 1113) (by decide +kernel) (by decide +kernel)), (gw_of (i := 52) (by decide +kernel) (by decide +kernel)), (gw_of (i := 1114) (by decide +kernel) (by decide +kernel)), by decide +kernel⟩
theorem mL_72 : MV "EmptyLegsLaw" 72 RX11 yX11_on cX11_on 2 (some .int) 1 := ⟨(gw_of (i := 1115) (by decide +kernel) (by decide +kernel)), (gw_of (i := 1116) (by decide +kernel) (by decide +kernel)), (gw_of (i := 1117) (by decide +kernel) (by decide +kernel)), (gw_of (i := 52) (by decide +kernel) (by decide +kernel)), (gw_of (i := 1118) (by decide +kernel) (by decide +kernel)), by decide +kernel⟩
theorem mL_76 : MV "EmptyLegsLaw" 76 RX11 yX11_move cX11_move 5 (some .int) 3 := ⟨(gw_of (i := 1119) (by decide +kernel) (by decide +kernel)), (gw_of (i := 1120) (by decide +kernel) (by decide +kernel)), (gw_of (i := 1121) (by decide +kernel) (by decide +kernel)), (gw_of (i := 52) (by decide +kernel) (by decide +kernel)), (gw_of (i := 1122) (by decide +kernel) (by decide +kernel)), by decide +kernel⟩
theorem mL_80 : MV "EmptyLegsLaw" 80 RX11 yX11_offer cX11_offer 6 (some .int) 4 := ⟨(gw_of (i := 1123) (by decide +kernel) (by decide +kernel)), (gw_of (i := 1124) (by decide +kernel) (by decide +kernel)), (gw_of (i := 1125) (by decide +kernel) (by decide +kernel)), (gw_of (i := 52) (by decide +kernel) (by decide +kernel)), (gw_of (i := 1126) (by decide +kernel) (by decide +kernel)), by decide +kernel⟩
theorem mL_85 : MV "EmptyLegsLaw" 85 RX11 yX11_take cX11_take 3 (some .boolean) 2 := ⟨(gw_of (i := 1128) (by decide +kernel) (by decide +kernel)), (gw_of (i := 1129) (by decide +kernel) (by decide +kernel)), (gw_of (i := 1130) (by decide +kernel) (by decide +kernel)), (gw_of (i := 52) (by decide +kernel) (by decide +kernel)), (gw_of (i := 1131) (by decide +kernel) (by decide +kernel)), by decide +kernel⟩
theorem mL_89 : MV "EmptyLegsLaw" 89 RX11 yX11_told cX11_told 3 (some .int) 2 := ⟨(gw_of (i := 1132) (by decide +kernel) (by decide +kernel)), (gw_of (i := 1133) (by decide +kernel) (by decide +kernel)), (gw_of (i := 1134) (by decide +kernel) (by decide +kernel)), (gw_of (i := 52) (by decide +kernel) (by decide +kernel)), (gw_of (i := 1135) (by decide +kernel) (by decide +kernel)), by decide +kernel⟩
theorem mL_94 : MV "EmptyLegsLaw" 94 RX11 yX11_bill cX11_bill 8 (some .long) 1 := ⟨(gw_of (i := 1136) (by decide +kernel) (by decide +kernel)), (gw_of (i := 1137) (by decide +kernel) (by decide +kernel)), (gw_of (i := 1138) (by decide +kernel) (by decide +kernel)), (gw_of (i := 52) (by decide +kernel) (by decide +kernel)), (gw_of (i := 1139) (by decide +kernel) (by decide +kernel)), by decide +kernel⟩
theorem mL_98 : MV "EmptyLegsLaw" 98 RX11 yX11_look cX11_look 3 (some .int) 2 := ⟨(gw_of (i := 1141) (by decide +kernel) (by decide +kernel)), (gw_of (i := 1142) (by decide +kernel) (by decide +kernel)), (gw_of (i := 1143) (by decide +kernel) (by decide +kernel)), (gw_of (i := 52) (by decide +kernel) (by decide +kernel)), (gw_of (i := 1144) (by decide +kernel) (by decide +kernel)), by decide +kernel⟩
theorem mL_102 : MV "EmptyLegsLaw" 102 RX11 yX11_count cX11_count 4 (some .int) 1 := ⟨(gw_of (i := 1145) (by decide +kernel) (by decide +kernel)), (gw_of (i := 1146) (by decide +kernel) (by decide +kernel)), (gw_of (i := 1147) (by decide +kernel) (by decide +kernel)), (gw_of (i := 52) (by decide +kernel) (by decide +kernel)), (gw_of (i := 1148) (by decide +kernel) (by decide +kernel)), by decide +kernel⟩
theorem mX2_47 : MN RX2 47 yX10_isWithin RX10 cX10_isWithin 3 (some .boolean) 3 := ⟨List.mem_of_getElem? (i := 6) rfl, (gw_of (i := 392) (by decide +kernel) (by decide +kernel)), (gw_of (i := 41) (by decide +kernel) (by decide +kernel)), (gw_of (i := 393) (by decide +kernel) (by decide +kernel)), by decide +kernel⟩
theorem mX2_51 : MN RX2 51 yX10_isDay RX10 cX10_isDay 1 (some .boolean) 1 := ⟨List.mem_of_getElem? (i := 7) rfl, (gw_of (i := 373) (by decide +kernel) (by decide +kernel)), (gw_of (i := 41) (by decide +kernel) (by decide +kernel)), (gw_of (i := 374) (by decide +kernel) (by decide +kernel)), by decide +kernel⟩
theorem mX9_15 : MN RX9 15 yX10_isField RX10 cX10_isField 1 (some .boolean) 1 := ⟨List.mem_of_getElem? (i := 8) rfl, (gw_of (i := 420) (by decide +kernel) (by decide +kernel)), (gw_of (i := 41) (by decide +kernel) (by decide +kernel)), (gw_of (i := 421) (by decide +kernel) (by decide +kernel)), by decide +kernel⟩
theorem mX0_85 : MN RX0 85 yX10_isMinute RX10 cX10_isMinute 1 (some .boolean) 1 := ⟨List.mem_of_getElem? (i := 9) rfl, (gw_of (i := 449) (by decide +kernel) (by decide +kernel)), (gw_of (i := 41) (by decide +kernel) (by decide +kernel)), (gw_of (i := 450) (by decide +kernel) (by decide +kernel)), by decide +kernel⟩
end
section
/-! ===== the layouts of the two systems, constants ===== -/
-- LC: 0 EmptyLegs, 1 EmptyLegs$Tape, 2 EmptyLegs$Law, 3 EmptyLegs$Ways, 4 EmptyLegs$Planes, 5 EmptyLegs$Flights, 6 EmptyLegs$Storms, 7 EmptyLegs$Roster, 8 EmptyLegs$Chain, 9 EmptyLegs$Planner, 10 EmptyLegs$Offers; 11 Tape.bytes, 12 Law.toldDuty, 13 Law.toldRest, 14 Law.duty, 15 Law.rest, 16 Ways.minutes, 17 Planes.home, 18 Planes.seats, 19 Planes.turn, 20 Planes.rate, 21 Flights.from, 22 Flights.to, 23 Flights.start, 24 Flights.seats, 25 Flights.struck, 26 Flights.order, 27 Storms.field, 28 Storms.from, 29 Storms.to, 30 Roster.plane, 31 Planner.lined, 32 Planner.digit, 33 Planner.cost, 34 Planner.least, 35 Planner.place, 36 Planner.ended, 37 Planner.dutyBegan, 38 Offers.state, 39 Offers.place, 40 Offers.plane, 41 Offers.flight, 42 Offers.price, 43 Offers.till, 44 Offers.client
def LC : List Lay := [.inr (10, [.inl 1, .inl 2, .inl 3, .inl 4, .inl 5, .inl 6, .inl 7, .inl 9, .inl 10, .inr false]), .inr (8, [.inl 11, .inr false]), .inr (2, [.inl 12, .inl 13, .inl 14, .inl 15, .inr false, .inr false, .inr false]), .inr (9, [.inl 16]), .inr (4, [.inl 17, .inl 18, .inl 19, .inl 20, .inr false]), .inr (1, [.inl 21, .inl 22, .inl 23, .inl 24, .inl 25, .inl 26, .inr false, .inr false]), .inr (7, [.inl 27, .inl 28, .inl 29, .inr false]), .inr (6, [.inl 4, .inl 5, .inl 3, .inl 30]), .inr (0, [.inl 4, .inl 5, .inl 3, .inl 6, .inl 2, .inr false, .inr false, .inr false, .inr false, .inr false]), .inr (5, [.inl 4, .inl 5, .inl 7, .inl 8, .inl 31, .inl 32, .inl 33, .inl 34, .inl 35, .inl 36, .inl 37, .inr false, .inr true]), .inr (3, [.inl 38, .inl 39, .inl 40, .inl 41, .inl 42, .inl 43, .inl 44, .inr false]), .inl (0, 40), .inl (0, 7), .inl (0, 7), .inl (0, 7), .inl (0, 7), .inl (0, 64), .inl (0, 4), .inl (0, 4), .inl (0, 4), .inl (0, 4), .inl (0, 20), .inl (0, 20), .inl (0, 20), .inl (0, 20), .inl (1, 20), .inl (0, 20), .inl (0, 20), .inl (0, 20), .inl (0, 20), .inl (0, 20), .inl (0, 8), .inl (3, 8), .inl (3, 256), .inl (3, 256), .inl (0, 256), .inl (0, 256), .inl (0, 256), .inl (0, 40), .inl (0, 40), .inl (0, 40), .inl (0, 40), .inl (0, 40), .inl (0, 40), .inl (0, 40)]
-- LM: 0 EmptyLegsModel; 1 EmptyLegsModel.tape, 2 EmptyLegsModel.isLaw, 3 EmptyLegsModel.duty, 4 EmptyLegsModel.rest, 5 EmptyLegsModel.ways, 6 EmptyLegsModel.home, 7 EmptyLegsModel.seats, 8 EmptyLegsModel.turn, 9 EmptyLegsModel.rate, 10 EmptyLegsModel.from, 11 EmptyLegsModel.to, 12 EmptyLegsModel.start, 13 EmptyLegsModel.wants, 14 EmptyLegsModel.isCancelled, 15 EmptyLegsModel.on, 16 EmptyLegsModel.stormAt, 17 EmptyLegsModel.stormFrom, 18 EmptyLegsModel.stormTo, 19 EmptyLegsModel.state, 20 EmptyLegsModel.price, 21 EmptyLegsModel.till, 22 EmptyLegsModel.client, 23 EmptyLegsModel.legPlane, 24 EmptyLegsModel.legFrom, 25 EmptyLegsModel.legTo, 26 EmptyLegsModel.legFlight, 27 EmptyLegsModel.row, 28 EmptyLegsModel.moveFlight, 29 EmptyLegsModel.moveFrom, 30 EmptyLegsModel.moveTo, 31 EmptyLegsModel.begins, 32 EmptyLegsModel.ends, 33 EmptyLegsModel.ahead, 34 EmptyLegsModel.cost, 35 EmptyLegsModel.digit, 36 EmptyLegsModel.best, 37 EmptyLegsModel.sets
def LM : List Lay := [.inr (11, [.inl 1, .inr false, .inr false, .inl 2, .inl 3, .inl 4, .inr false, .inr false, .inl 5, .inr false, .inl 6, .inl 7, .inl 8, .inl 9, .inr false, .inl 10, .inl 11, .inl 12, .inl 13, .inl 14, .inl 15, .inr false, .inl 16, .inl 17, .inl 18, .inr false, .inl 19, .inl 20, .inl 21, .inl 22, .inl 23, .inl 24, .inl 25, .inl 26, .inr false, .inl 27, .inr false, .inl 28, .inl 29, .inl 30, .inl 31, .inl 32, .inl 33, .inl 34, .inl 35, .inl 36, .inl 37]), .inl (2, 40), .inl (1, 7), .inl (0, 7), .inl (0, 7), .inl (0, 64), .inl (0, 4), .inl (0, 4), .inl (0, 4), .inl (0, 4), .inl (0, 20), .inl (0, 20), .inl (0, 20), .inl (0, 20), .inl (1, 20), .inl (0, 20), .inl (0, 20), .inl (0, 20), .inl (0, 20), .inl (0, 40), .inl (0, 40), .inl (0, 40), .inl (0, 40), .inl (0, 40), .inl (0, 40), .inl (0, 40), .inl (0, 40), .inl (0, 8), .inl (0, 16), .inl (0, 16), .inl (0, 16), .inl (0, 16), .inl (0, 16), .inl (0, 16), .inl (0, 1024), .inl (0, 8), .inl (0, 8), .inl (0, 4)]
theorem kX5_52 : Cond.constantLong RX5 52 1000000000000 ∈ gw := (gw_of (i := 563) (by decide +kernel) (by decide +kernel))
theorem kX5_115 : Cond.constantLong RX5 115 10 ∈ gw := (gw_of (i := 571) (by decide +kernel) (by decide +kernel))
theorem kX5_117 : Cond.constantLong RX5 117 10000000000000000 ∈ gw := (gw_of (i := 572) (by decide +kernel) (by decide +kernel))
theorem kX5_85 : Cond.constantLong RX5 85 100000000 ∈ gw := (gw_of (i := 647) (by decide +kernel) (by decide +kernel))
theorem kM5_119 : Cond.methodLink RX5 119 Lib.MathLoose.min_long.x ∈ gw := (gw_of (i := 656) (by decide +kernel) (by decide +kernel))
theorem kX5_91 : Cond.constantLong RX5 91 100000000000000 ∈ gw := (gw_of (i := 663) (by decide +kernel) (by decide +kernel))
theorem kX6_73 : Cond.constant RX6 73 2147483647 ∈ gw := (gw_of (i := 716) (by decide +kernel) (by decide +kernel))
theorem kX10_190 : Cond.constant RX10 190 1000000 ∈ gw := (gw_of (i := 732) (by decide +kernel) (by decide +kernel))
theorem kX10_219 : Cond.constantLong RX10 219 (-1) ∈ gw := (gw_of (i := 778) (by decide +kernel) (by decide +kernel))
theorem kM10_236 : Cond.methodLink RX10 236 Lib.MathLoose.max_long.x ∈ gw := (gw_of (i := 788) (by decide +kernel) (by decide +kernel))
theorem kX11_239 : Cond.constant RX11 239 1000000 ∈ gw := (gw_of (i := 1127) (by decide +kernel) (by decide +kernel))
theorem kX11_240 : Cond.constantLong RX11 240 (-1) ∈ gw := (gw_of (i := 1140) (by decide +kernel) (by decide +kernel))
theorem kMmin_s : Cond.static Lib.MathLoose.min_long.x ∈ gw := (gw_of (i := 657) (by decide +kernel) (by decide +kernel))
theorem kMmin_c : Cond.code Lib.MathLoose.min_long.x Lib.MathLoose.min_long.code 4 (some .long) ∈ gw := (gw_of (i := 658) (by decide +kernel) (by decide +kernel))
theorem kMmax_s : Cond.static Lib.MathLoose.max_long.x ∈ gw := (gw_of (i := 789) (by decide +kernel) (by decide +kernel))
theorem kMmax_c : Cond.code Lib.MathLoose.max_long.x Lib.MathLoose.max_long.code 4 (some .long) ∈ gw := (gw_of (i := 790) (by decide +kernel) (by decide +kernel))
theorem kM_i : Cond.initialized "java/lang/Math" ∈ gw := (gw_of (i := 53) (by decide +kernel) (by decide +kernel))
end
section
section
variable {p : Program} {l : Launch} {e : Env} {R : Room} {s : State} {m : MethodId} {args : Array Value} {below : List Frame} {meth : Method} {c : Code} {E : State → Prop}
variable {D : va_G} {cs : Nat → ClassId} {q : Nat → Nat}
variable {Q : Int32 → Prop}
def w_X10_isWithin (x0 : Int32) (x1 : Int32) (x2 : Int32) (Q : Int32 → Prop) : Prop := (x0 < x1 → (Q 0)) ∧ (¬ x0 < x1 → ((x2 < x0 → (Q 0)) ∧ (¬ x2 < x0 → (Q 1))))
set_option maxHeartbeats 4000000 in
set_option maxRecDepth 100000 in
theorem b_X10_isWithin (hx : p.tables.exec = Jvm.exec) (hb : c.code = cX10_isWithin) (hml : c.maxLocals = 3) (hown : s.vm.findClass RX10 = some m.cls) (hts : ∀ w ∈ gw, w.before args s = true) (hfr : 0 ≤ R.frames) (hlo : 0 ≤ R.locals) (hE : RS p l e R s m args below meth c cX10_isWithin .boolean Q E) : ∀ (x0 : Int32) (x1 : Int32) (x2 : Int32) (ls : Array Slot), lv_has ls 3 [(0, .int x0), (1, .int x1), (2, .int x2)] → w_X10_isWithin x0 x1 x2 Q → W p l e R s m args below meth c s.heap [] 0 0 E (F0 m 0 ls []) := by
  intro x0 x1 x2 ls hl hf
  unfold w_X10_isWithin at hf
  refine lv_iload_n hx hb dX10_isWithin_0 rfl (lv_at hl 0 rfl) ?_
  refine lv_iload_n hx hb dX10_isWithin_1 rfl (lv_at hl 1 rfl) ?_
  refine lv_icmp_lt (tgt := 14) hx hb dX10_isWithin_2 (by decide) (fun c_1 => ?_) (fun c_1 => ?_)
  · have hf := hf.1 c_1
    refine lv_iconst (v := 0) hx hb dX10_isWithin_14 (by decide) ?_
    exact hE _ _ _ rfl hf dX10_isWithin_15
  · have hf := hf.2 c_1
    refine lv_iload_n hx hb dX10_isWithin_5 rfl (lv_at hl 0 rfl) ?_
    refine lv_iload_n hx hb dX10_isWithin_6 rfl (lv_at hl 2 rfl) ?_
    refine lv_icmp_gt (tgt := 14) hx hb dX10_isWithin_7 (by decide) (fun c_2 => ?_) (fun c_2 => ?_)
    · have hf := hf.1 c_2
      refine lv_iconst (v := 0) hx hb dX10_isWithin_14 (by decide) ?_
      exact hE _ _ _ rfl hf dX10_isWithin_15
    · have hf := hf.2 c_2
      refine lv_iconst (v := 1) hx hb dX10_isWithin_10 (by decide) ?_
      refine lv_goto (tgt := 15) hx hb dX10_isWithin_11 (by decide) ?_
      exact hE _ _ _ rfl hf dX10_isWithin_15
theorem c_X10_isWithin (l : Launch) (x0 : Int32) (x1 : Int32) (x2 : Int32) : MetS l yX10_isWithin cX10_isWithin 3 .boolean 0 0 [.int x0, .int x1, .int x2] (w_X10_isWithin x0 x1 x2) := mk_S (own := RX10) (by decide) rfl (Nat.le_of_ble_eq_true rfl) (fun hx hb hml hown hts hfr hlo hE hl hf => b_X10_isWithin hx hb hml hown hts hfr hlo hE x0 x1 x2 _ hl hf)
end
section
variable {p : Program} {l : Launch} {e : Env} {R : Room} {s : State} {m : MethodId} {args : Array Value} {below : List Frame} {meth : Method} {c : Code} {E : State → Prop}
variable {D : va_G} {cs : Nat → ClassId} {q : Nat → Nat}
variable {Q : Int32 → Prop}
def w_X10_isField (x0 : Int32) (Q : Int32 → Prop) : Prop := (x0 < 0 → (Q 0)) ∧ (¬ x0 < 0 → ((8 ≤ x0 → (Q 0)) ∧ (¬ 8 ≤ x0 → (Q 1))))
set_option maxHeartbeats 4000000 in
set_option maxRecDepth 100000 in
theorem b_X10_isField (hx : p.tables.exec = Jvm.exec) (hb : c.code = cX10_isField) (hml : c.maxLocals = 1) (hown : s.vm.findClass RX10 = some m.cls) (hts : ∀ w ∈ gw, w.before args s = true) (hfr : 0 ≤ R.frames) (hlo : 0 ≤ R.locals) (hE : RS p l e R s m args below meth c cX10_isField .boolean Q E) : ∀ (x0 : Int32) (ls : Array Slot), lv_has ls 1 [(0, .int x0)] → w_X10_isField x0 Q → W p l e R s m args below meth c s.heap [] 0 0 E (F0 m 0 ls []) := by
  intro x0 ls hl hf
  unfold w_X10_isField at hf
  refine lv_iload_n hx hb dX10_isField_0 rfl (lv_at hl 0 rfl) ?_
  refine lv_if_lt (tgt := 14) hx hb dX10_isField_1 (by decide) (fun c_1 => ?_) (fun c_1 => ?_)
  · have hf := hf.1 c_1
    refine lv_iconst (v := 0) hx hb dX10_isField_14 (by decide) ?_
    exact hE _ _ _ rfl hf dX10_isField_15
  · have hf := hf.2 c_1
    refine lv_iload_n hx hb dX10_isField_4 rfl (lv_at hl 0 rfl) ?_
    refine lv_bipush (v := 8) hx hb dX10_isField_5 (by decide) ?_
    refine lv_icmp_ge (tgt := 14) hx hb dX10_isField_7 (by decide) (fun c_2 => ?_) (fun c_2 => ?_)
    · have hf := hf.1 c_2
      refine lv_iconst (v := 0) hx hb dX10_isField_14 (by decide) ?_
      exact hE _ _ _ rfl hf dX10_isField_15
    · have hf := hf.2 c_2
      refine lv_iconst (v := 1) hx hb dX10_isField_10 (by decide) ?_
      refine lv_goto (tgt := 15) hx hb dX10_isField_11 (by decide) ?_
      exact hE _ _ _ rfl hf dX10_isField_15
theorem c_X10_isField (l : Launch) (x0 : Int32) : MetS l yX10_isField cX10_isField 1 .boolean 0 0 [.int x0] (w_X10_isField x0) := mk_S (own := RX10) (by decide) rfl (Nat.le_of_ble_eq_true rfl) (fun hx hb hml hown hts hfr hlo hE hl hf => b_X10_isField hx hb hml hown hts hfr hlo hE x0 _ hl hf)
end
section
variable {p : Program} {l : Launch} {e : Env} {R : Room} {s : State} {m : MethodId} {args : Array Value} {below : List Frame} {meth : Method} {c : Code} {E : State → Prop}
variable {D : va_G} {cs : Nat → ClassId} {q : Nat → Nat}
variable {Q : Int32 → Prop}
def w_X10_isDay (x0 : Int32) (Q : Int32 → Prop) : Prop := (x0 < 0 → (Q 0)) ∧ (¬ x0 < 0 → ((7 ≤ x0 → (Q 0)) ∧ (¬ 7 ≤ x0 → (Q 1))))
set_option maxHeartbeats 4000000 in
set_option maxRecDepth 100000 in
theorem b_X10_isDay (hx : p.tables.exec = Jvm.exec) (hb : c.code = cX10_isDay) (hml : c.maxLocals = 1) (hown : s.vm.findClass RX10 = some m.cls) (hts : ∀ w ∈ gw, w.before args s = true) (hfr : 0 ≤ R.frames) (hlo : 0 ≤ R.locals) (hE : RS p l e R s m args below meth c cX10_isDay .boolean Q E) : ∀ (x0 : Int32) (ls : Array Slot), lv_has ls 1 [(0, .int x0)] → w_X10_isDay x0 Q → W p l e R s m args below meth c s.heap [] 0 0 E (F0 m 0 ls []) := by
  intro x0 ls hl hf
  unfold w_X10_isDay at hf
  refine lv_iload_n hx hb dX10_isDay_0 rfl (lv_at hl 0 rfl) ?_
  refine lv_if_lt (tgt := 14) hx hb dX10_isDay_1 (by decide) (fun c_1 => ?_) (fun c_1 => ?_)
  · have hf := hf.1 c_1
    refine lv_iconst (v := 0) hx hb dX10_isDay_14 (by decide) ?_
    exact hE _ _ _ rfl hf dX10_isDay_15
  · have hf := hf.2 c_1
    refine lv_iload_n hx hb dX10_isDay_4 rfl (lv_at hl 0 rfl) ?_
    refine lv_bipush (v := 7) hx hb dX10_isDay_5 (by decide) ?_
    refine lv_icmp_ge (tgt := 14) hx hb dX10_isDay_7 (by decide) (fun c_2 => ?_) (fun c_2 => ?_)
    · have hf := hf.1 c_2
      refine lv_iconst (v := 0) hx hb dX10_isDay_14 (by decide) ?_
      exact hE _ _ _ rfl hf dX10_isDay_15
    · have hf := hf.2 c_2
      refine lv_iconst (v := 1) hx hb dX10_isDay_10 (by decide) ?_
      refine lv_goto (tgt := 15) hx hb dX10_isDay_11 (by decide) ?_
      exact hE _ _ _ rfl hf dX10_isDay_15
theorem c_X10_isDay (l : Launch) (x0 : Int32) : MetS l yX10_isDay cX10_isDay 1 .boolean 0 0 [.int x0] (w_X10_isDay x0) := mk_S (own := RX10) (by decide) rfl (Nat.le_of_ble_eq_true rfl) (fun hx hb hml hown hts hfr hlo hE hl hf => b_X10_isDay hx hb hml hown hts hfr hlo hE x0 _ hl hf)
end
section
variable {p : Program} {l : Launch} {e : Env} {R : Room} {s : State} {m : MethodId} {args : Array Value} {below : List Frame} {meth : Method} {c : Code} {E : State → Prop}
variable {D : va_G} {cs : Nat → ClassId} {q : Nat → Nat}
variable {Q : Int32 → Prop}
def w_X10_isMinute (x0 : Int32) (Q : Int32 → Prop) : Prop := (x0 < 0 → (Q 0)) ∧ (¬ x0 < 0 → ((10080 ≤ x0 → (Q 0)) ∧ (¬ 10080 ≤ x0 → (Q 1))))
set_option maxHeartbeats 4000000 in
set_option maxRecDepth 100000 in
theorem b_X10_isMinute (hx : p.tables.exec = Jvm.exec) (hb : c.code = cX10_isMinute) (hml : c.maxLocals = 1) (hown : s.vm.findClass RX10 = some m.cls) (hts : ∀ w ∈ gw, w.before args s = true) (hfr : 0 ≤ R.frames) (hlo : 0 ≤ R.locals) (hE : RS p l e R s m args below meth c cX10_isMinute .boolean Q E) : ∀ (x0 : Int32) (ls : Array Slot), lv_has ls 1 [(0, .int x0)] → w_X10_isMinute x0 Q → W p l e R s m args below meth c s.heap [] 0 0 E (F0 m 0 ls []) := by
  intro x0 ls hl hf
  unfold w_X10_isMinute at hf
  refine lv_iload_n hx hb dX10_isMinute_0 rfl (lv_at hl 0 rfl) ?_
  refine lv_if_lt (tgt := 15) hx hb dX10_isMinute_1 (by decide) (fun c_1 => ?_) (fun c_1 => ?_)
  · have hf := hf.1 c_1
    refine lv_iconst (v := 0) hx hb dX10_isMinute_15 (by decide) ?_
    exact hE _ _ _ rfl hf dX10_isMinute_16
  · have hf := hf.2 c_1
    refine lv_iload_n hx hb dX10_isMinute_4 rfl (lv_at hl 0 rfl) ?_
    refine lv_sipush (v := 10080) hx hb dX10_isMinute_5 (by decide) ?_
    refine lv_icmp_ge (tgt := 15) hx hb dX10_isMinute_8 (by decide) (fun c_2 => ?_) (fun c_2 => ?_)
    · have hf := hf.1 c_2
      refine lv_iconst (v := 0) hx hb dX10_isMinute_15 (by decide) ?_
      exact hE _ _ _ rfl hf dX10_isMinute_16
    · have hf := hf.2 c_2
      refine lv_iconst (v := 1) hx hb dX10_isMinute_11 (by decide) ?_
      refine lv_goto (tgt := 16) hx hb dX10_isMinute_12 (by decide) ?_
      exact hE _ _ _ rfl hf dX10_isMinute_16
theorem c_X10_isMinute (l : Launch) (x0 : Int32) : MetS l yX10_isMinute cX10_isMinute 1 .boolean 0 0 [.int x0] (w_X10_isMinute x0) := mk_S (own := RX10) (by decide) rfl (Nat.le_of_ble_eq_true rfl) (fun hx hb hml hown hts hfr hlo hE hl hf => b_X10_isMinute hx hb hml hown hts hfr hlo hE x0 _ hl hf)
end
section
variable {p : Program} {l : Launch} {e : Env} {R : Room} {s : State} {m : MethodId} {args : Array Value} {below : List Frame} {meth : Method} {c : Code} {E : State → Prop}
variable {D : va_G} {cs : Nat → ClassId} {q : Nat → Nat}
variable {Q : Int32 → St → Prop}
def w_X4_has (x1 : Int32) (σ : St) (Q : Int32 → St → Prop) : Prop := (x1 < 0 → (Q 0 σ)) ∧ (¬ x1 < 0 → (((σ.1 4 4) ≤ x1 → (Q 0 σ)) ∧ (¬ (σ.1 4 4) ≤ x1 → (Q 1 σ))))
set_option maxHeartbeats 4000000 in
set_option maxRecDepth 100000 in
theorem b_X4_has (C : CX p R s m args meth c cX4_has 2 RX4 0 0 D cs) (hE : RI p l e R s m args below meth c cX4_has D cs LC q .boolean Q E) : ∀ (x1 : Int32) (σ : St) (H : Heap) (locs : List Loc) (ls : Array Slot), OK D cs LC q s σ H locs → lv_has ls 2 [(0, .ref (q 4)), (1, .int x1)] → w_X4_has x1 σ Q → W p l e R s m args below meth c H locs 0 0 E (F0 m 0 ls []) := by
  have hx := C.1
  have hb := C.2.1
  intro x1 σ H locs ls O hl hf
  unfold w_X4_has at hf
  refine lv_iload_n hx hb dX4_has_0 rfl (lv_at hl 1 rfl) ?_
  refine lv_if_lt (tgt := 16) hx hb dX4_has_1 (by decide) (fun c_1 => ?_) (fun c_1 => ?_)
  · have hf := hf.1 c_1
    refine lv_iconst (v := 0) hx hb dX4_has_16 (by decide) ?_
    exact hE _ _ _ _ _ _ rfl O hf dX4_has_17
  · have hf := hf.2 c_1
    refine lv_iload_n hx hb dX4_has_4 rfl (lv_at hl 1 rfl) ?_
    refine lv_aload_n hx hb dX4_has_5 rfl (lv_at hl 0 rfl) ?_
    refine r_get C O (k := 4) (j := 4) (v := .int (σ.1 4 4)) fX4_24 rfl rfl rfl dX4_has_6 ?_
    refine lv_icmp_ge (tgt := 16) hx hb dX4_has_9 (by decide) (fun c_2 => ?_) (fun c_2 => ?_)
    · have hf := hf.1 c_2
      refine lv_iconst (v := 0) hx hb dX4_has_16 (by decide) ?_
      exact hE _ _ _ _ _ _ rfl O hf dX4_has_17
    · have hf := hf.2 c_2
      refine lv_iconst (v := 1) hx hb dX4_has_12 (by decide) ?_
      refine lv_goto (tgt := 17) hx hb dX4_has_13 (by decide) ?_
      exact hE _ _ _ _ _ _ rfl O hf dX4_has_17
theorem c_X4_has (l : Launch) (x1 : Int32) : MetI l yX4_has cX4_has 2 .boolean 0 0 LC 4 (fun q => [.int x1]) (w_X4_has x1) := mk_I (own := RX4) (by decide) rfl (fun q => Nat.le_of_ble_eq_true rfl) (fun C hE O hl hf => b_X4_has C hE x1 _ _ _ _ O hl hf)
end
section
variable {p : Program} {l : Launch} {e : Env} {R : Room} {s : State} {m : MethodId} {args : Array Value} {below : List Frame} {meth : Method} {c : Code} {E : State → Prop}
variable {D : va_G} {cs : Nat → ClassId} {q : Nat → Nat}
variable {Q : Int32 → St → Prop}
def w_X4_seatsOf (x1 : Int32) (σ : St) (Q : Int32 → St → Prop) : Prop := w_X4_has x1 σ (fun r_2 σ_1 => (r_2 = 0 → (Q ((-1)) σ_1)) ∧ (¬ r_2 = 0 → (vp_in x1 4 ∧ (Q (σ_1.1 18 x1.toNatClampNeg) σ_1))))
set_option maxHeartbeats 4000000 in
set_option maxRecDepth 100000 in
theorem b_X4_seatsOf (C : CX p R s m args meth c cX4_seatsOf 2 RX4 1 21 D cs) (hE : RI p l e R s m args below meth c cX4_seatsOf D cs LC q .int Q E) : ∀ (x1 : Int32) (σ : St) (H : Heap) (locs : List Loc) (ls : Array Slot), OK D cs LC q s σ H locs → lv_has ls 2 [(0, .ref (q 4)), (1, .int x1)] → w_X4_seatsOf x1 σ Q → W p l e R s m args below meth c H locs 0 0 E (F0 m 0 ls []) := by
  have hx := C.1
  have hb := C.2.1
  intro x1 σ H locs ls O hl hf
  unfold w_X4_seatsOf at hf
  refine lv_aload_n hx hb dX4_seatsOf_0 rfl (lv_at hl 0 rfl) ?_
  refine lv_iload_n hx hb dX4_seatsOf_1 rfl (lv_at hl 1 rfl) ?_
  refine r_callI C O hl (c_X4_has l x1) mX4_28 (by decide) rfl rfl rfl rfl (Nat.le_of_ble_eq_true rfl) hf dX4_seatsOf_2 (fun r_2 σ_1 H locs O hf => ?_)
  refine lv_if_eq (tgt := 17) hx hb dX4_seatsOf_5 (by decide) (fun c_3 => ?_) (fun c_3 => ?_)
  · have hf := hf.1 c_3
    refine lv_iconst (v := (-1)) hx hb dX4_seatsOf_17 (by decide) ?_
    exact hE _ _ _ _ _ _ (vp_nar_int _) O hf dX4_seatsOf_18
  · have hf := hf.2 c_3
    refine lv_aload_n hx hb dX4_seatsOf_8 rfl (lv_at hl 0 rfl) ?_
    refine r_get C O (k := 4) (j := 1) (v := .ref (q 18)) fX4_15 rfl rfl rfl dX4_seatsOf_9 ?_
    refine lv_iload_n hx hb dX4_seatsOf_12 rfl (lv_at hl 1 rfl) ?_
    refine r_iald C O (k := 18) rfl hf.1 dX4_seatsOf_13 ?_
    have hf := hf.2
    refine lv_goto (tgt := 18) hx hb dX4_seatsOf_14 (by decide) ?_
    exact hE _ _ _ _ _ _ (vp_nar_int _) O hf dX4_seatsOf_18
theorem c_X4_seatsOf (l : Launch) (x1 : Int32) : MetI l yX4_seatsOf cX4_seatsOf 2 .int 1 21 LC 4 (fun q => [.int x1]) (w_X4_seatsOf x1) := mk_I (own := RX4) (by decide) rfl (fun q => Nat.le_of_ble_eq_true rfl) (fun C hE O hl hf => b_X4_seatsOf C hE x1 _ _ _ _ O hl hf)
end
section
variable {p : Program} {l : Launch} {e : Env} {R : Room} {s : State} {m : MethodId} {args : Array Value} {below : List Frame} {meth : Method} {c : Code} {E : State → Prop}
variable {D : va_G} {cs : Nat → ClassId} {q : Nat → Nat}
variable {Q : Int32 → St → Prop}
def w_X4_turnOf (x1 : Int32) (σ : St) (Q : Int32 → St → Prop) : Prop := w_X4_has x1 σ (fun r_2 σ_1 => (r_2 = 0 → (Q ((-1)) σ_1)) ∧ (¬ r_2 = 0 → (vp_in x1 4 ∧ (Q (σ_1.1 19 x1.toNatClampNeg) σ_1))))
set_option maxHeartbeats 4000000 in
set_option maxRecDepth 100000 in
theorem b_X4_turnOf (C : CX p R s m args meth c cX4_turnOf 2 RX4 1 21 D cs) (hE : RI p l e R s m args below meth c cX4_turnOf D cs LC q .int Q E) : ∀ (x1 : Int32) (σ : St) (H : Heap) (locs : List Loc) (ls : Array Slot), OK D cs LC q s σ H locs → lv_has ls 2 [(0, .ref (q 4)), (1, .int x1)] → w_X4_turnOf x1 σ Q → W p l e R s m args below meth c H locs 0 0 E (F0 m 0 ls []) := by
  have hx := C.1
  have hb := C.2.1
  intro x1 σ H locs ls O hl hf
  unfold w_X4_turnOf at hf
  refine lv_aload_n hx hb dX4_turnOf_0 rfl (lv_at hl 0 rfl) ?_
  refine lv_iload_n hx hb dX4_turnOf_1 rfl (lv_at hl 1 rfl) ?_
  refine r_callI C O hl (c_X4_has l x1) mX4_28 (by decide) rfl rfl rfl rfl (Nat.le_of_ble_eq_true rfl) hf dX4_turnOf_2 (fun r_2 σ_1 H locs O hf => ?_)
  refine lv_if_eq (tgt := 17) hx hb dX4_turnOf_5 (by decide) (fun c_3 => ?_) (fun c_3 => ?_)
  · have hf := hf.1 c_3
    refine lv_iconst (v := (-1)) hx hb dX4_turnOf_17 (by decide) ?_
    exact hE _ _ _ _ _ _ (vp_nar_int _) O hf dX4_turnOf_18
  · have hf := hf.2 c_3
    refine lv_aload_n hx hb dX4_turnOf_8 rfl (lv_at hl 0 rfl) ?_
    refine r_get C O (k := 4) (j := 2) (v := .ref (q 19)) fX4_18 rfl rfl rfl dX4_turnOf_9 ?_
    refine lv_iload_n hx hb dX4_turnOf_12 rfl (lv_at hl 1 rfl) ?_
    refine r_iald C O (k := 19) rfl hf.1 dX4_turnOf_13 ?_
    have hf := hf.2
    refine lv_goto (tgt := 18) hx hb dX4_turnOf_14 (by decide) ?_
    exact hE _ _ _ _ _ _ (vp_nar_int _) O hf dX4_turnOf_18
theorem c_X4_turnOf (l : Launch) (x1 : Int32) : MetI l yX4_turnOf cX4_turnOf 2 .int 1 21 LC 4 (fun q => [.int x1]) (w_X4_turnOf x1) := mk_I (own := RX4) (by decide) rfl (fun q => Nat.le_of_ble_eq_true rfl) (fun C hE O hl hf => b_X4_turnOf C hE x1 _ _ _ _ O hl hf)
end
section
variable {p : Program} {l : Launch} {e : Env} {R : Room} {s : State} {m : MethodId} {args : Array Value} {below : List Frame} {meth : Method} {c : Code} {E : State → Prop}
variable {D : va_G} {cs : Nat → ClassId} {q : Nat → Nat}
variable {Q : Int32 → St → Prop}
def w_X4_homeOf (x1 : Int32) (σ : St) (Q : Int32 → St → Prop) : Prop := w_X4_has x1 σ (fun r_2 σ_1 => (r_2 = 0 → (Q ((-1)) σ_1)) ∧ (¬ r_2 = 0 → (vp_in x1 4 ∧ (Q (σ_1.1 17 x1.toNatClampNeg) σ_1))))
set_option maxHeartbeats 4000000 in
set_option maxRecDepth 100000 in
theorem b_X4_homeOf (C : CX p R s m args meth c cX4_homeOf 2 RX4 1 21 D cs) (hE : RI p l e R s m args below meth c cX4_homeOf D cs LC q .int Q E) : ∀ (x1 : Int32) (σ : St) (H : Heap) (locs : List Loc) (ls : Array Slot), OK D cs LC q s σ H locs → lv_has ls 2 [(0, .ref (q 4)), (1, .int x1)] → w_X4_homeOf x1 σ Q → W p l e R s m args below meth c H locs 0 0 E (F0 m 0 ls []) := by
  have hx := C.1
  have hb := C.2.1
  intro x1 σ H locs ls O hl hf
  unfold w_X4_homeOf at hf
  refine lv_aload_n hx hb dX4_homeOf_0 rfl (lv_at hl 0 rfl) ?_
  refine lv_iload_n hx hb dX4_homeOf_1 rfl (lv_at hl 1 rfl) ?_
  refine r_callI C O hl (c_X4_has l x1) mX4_28 (by decide) rfl rfl rfl rfl (Nat.le_of_ble_eq_true rfl) hf dX4_homeOf_2 (fun r_2 σ_1 H locs O hf => ?_)
  refine lv_if_eq (tgt := 17) hx hb dX4_homeOf_5 (by decide) (fun c_3 => ?_) (fun c_3 => ?_)
  · have hf := hf.1 c_3
    refine lv_iconst (v := (-1)) hx hb dX4_homeOf_17 (by decide) ?_
    exact hE _ _ _ _ _ _ (vp_nar_int _) O hf dX4_homeOf_18
  · have hf := hf.2 c_3
    refine lv_aload_n hx hb dX4_homeOf_8 rfl (lv_at hl 0 rfl) ?_
    refine r_get C O (k := 4) (j := 0) (v := .ref (q 17)) fX4_11 rfl rfl rfl dX4_homeOf_9 ?_
    refine lv_iload_n hx hb dX4_homeOf_12 rfl (lv_at hl 1 rfl) ?_
    refine r_iald C O (k := 17) rfl hf.1 dX4_homeOf_13 ?_
    have hf := hf.2
    refine lv_goto (tgt := 18) hx hb dX4_homeOf_14 (by decide) ?_
    exact hE _ _ _ _ _ _ (vp_nar_int _) O hf dX4_homeOf_18
theorem c_X4_homeOf (l : Launch) (x1 : Int32) : MetI l yX4_homeOf cX4_homeOf 2 .int 1 21 LC 4 (fun q => [.int x1]) (w_X4_homeOf x1) := mk_I (own := RX4) (by decide) rfl (fun q => Nat.le_of_ble_eq_true rfl) (fun C hE O hl hf => b_X4_homeOf C hE x1 _ _ _ _ O hl hf)
end
section
variable {p : Program} {l : Launch} {e : Env} {R : Room} {s : State} {m : MethodId} {args : Array Value} {below : List Frame} {meth : Method} {c : Code} {E : State → Prop}
variable {D : va_G} {cs : Nat → ClassId} {q : Nat → Nat}
variable {Q : Int32 → St → Prop}
def w_X1_has (x1 : Int32) (σ : St) (Q : Int32 → St → Prop) : Prop := (x1 < 0 → (Q 0 σ)) ∧ (¬ x1 < 0 → (((σ.1 5 6) ≤ x1 → (Q 0 σ)) ∧ (¬ (σ.1 5 6) ≤ x1 → (Q 1 σ))))
set_option maxHeartbeats 4000000 in
set_option maxRecDepth 100000 in
theorem b_X1_has (C : CX p R s m args meth c cX1_has 2 RX1 0 0 D cs) (hE : RI p l e R s m args below meth c cX1_has D cs LC q .boolean Q E) : ∀ (x1 : Int32) (σ : St) (H : Heap) (locs : List Loc) (ls : Array Slot), OK D cs LC q s σ H locs → lv_has ls 2 [(0, .ref (q 5)), (1, .int x1)] → w_X1_has x1 σ Q → W p l e R s m args below meth c H locs 0 0 E (F0 m 0 ls []) := by
  have hx := C.1
  have hb := C.2.1
  intro x1 σ H locs ls O hl hf
  unfold w_X1_has at hf
  refine lv_iload_n hx hb dX1_has_0 rfl (lv_at hl 1 rfl) ?_
  refine lv_if_lt (tgt := 16) hx hb dX1_has_1 (by decide) (fun c_1 => ?_) (fun c_1 => ?_)
  · have hf := hf.1 c_1
    refine lv_iconst (v := 0) hx hb dX1_has_16 (by decide) ?_
    exact hE _ _ _ _ _ _ rfl O hf dX1_has_17
  · have hf := hf.2 c_1
    refine lv_iload_n hx hb dX1_has_4 rfl (lv_at hl 1 rfl) ?_
    refine lv_aload_n hx hb dX1_has_5 rfl (lv_at hl 0 rfl) ?_
    refine r_get C O (k := 5) (j := 6) (v := .int (σ.1 5 6)) fX1_31 rfl rfl rfl dX1_has_6 ?_
    refine lv_icmp_ge (tgt := 16) hx hb dX1_has_9 (by decide) (fun c_2 => ?_) (fun c_2 => ?_)
    · have hf := hf.1 c_2
      refine lv_iconst (v := 0) hx hb dX1_has_16 (by decide) ?_
      exact hE _ _ _ _ _ _ rfl O hf dX1_has_17
    · have hf := hf.2 c_2
      refine lv_iconst (v := 1) hx hb dX1_has_12 (by decide) ?_
      refine lv_goto (tgt := 17) hx hb dX1_has_13 (by decide) ?_
      exact hE _ _ _ _ _ _ rfl O hf dX1_has_17
theorem c_X1_has (l : Launch) (x1 : Int32) : MetI l yX1_has cX1_has 2 .boolean 0 0 LC 5 (fun q => [.int x1]) (w_X1_has x1) := mk_I (own := RX1) (by decide) rfl (fun q => Nat.le_of_ble_eq_true rfl) (fun C hE O hl hf => b_X1_has C hE x1 _ _ _ _ O hl hf)
end
section
variable {p : Program} {l : Launch} {e : Env} {R : Room} {s : State} {m : MethodId} {args : Array Value} {below : List Frame} {meth : Method} {c : Code} {E : State → Prop}
variable {D : va_G} {cs : Nat → ClassId} {q : Nat → Nat}
variable {Q : Int32 → St → Prop}
def w_X1_seatsOf (x1 : Int32) (σ : St) (Q : Int32 → St → Prop) : Prop := w_X1_has x1 σ (fun r_2 σ_1 => (r_2 = 0 → (Q ((-1)) σ_1)) ∧ (¬ r_2 = 0 → (vp_in x1 20 ∧ (Q (σ_1.1 24 x1.toNatClampNeg) σ_1))))
set_option maxHeartbeats 4000000 in
set_option maxRecDepth 100000 in
theorem b_X1_seatsOf (C : CX p R s m args meth c cX1_seatsOf 2 RX1 1 21 D cs) (hE : RI p l e R s m args below meth c cX1_seatsOf D cs LC q .int Q E) : ∀ (x1 : Int32) (σ : St) (H : Heap) (locs : List Loc) (ls : Array Slot), OK D cs LC q s σ H locs → lv_has ls 2 [(0, .ref (q 5)), (1, .int x1)] → w_X1_seatsOf x1 σ Q → W p l e R s m args below meth c H locs 0 0 E (F0 m 0 ls []) := by
  have hx := C.1
  have hb := C.2.1
  intro x1 σ H locs ls O hl hf
  unfold w_X1_seatsOf at hf
  refine lv_aload_n hx hb dX1_seatsOf_0 rfl (lv_at hl 0 rfl) ?_
  refine lv_iload_n hx hb dX1_seatsOf_1 rfl (lv_at hl 1 rfl) ?_
  refine r_callI C O hl (c_X1_has l x1) mX1_50 (by decide) rfl rfl rfl rfl (Nat.le_of_ble_eq_true rfl) hf dX1_seatsOf_2 (fun r_2 σ_1 H locs O hf => ?_)
  refine lv_if_eq (tgt := 17) hx hb dX1_seatsOf_5 (by decide) (fun c_3 => ?_) (fun c_3 => ?_)
  · have hf := hf.1 c_3
    refine lv_iconst (v := (-1)) hx hb dX1_seatsOf_17 (by decide) ?_
    exact hE _ _ _ _ _ _ (vp_nar_int _) O hf dX1_seatsOf_18
  · have hf := hf.2 c_3
    refine lv_aload_n hx hb dX1_seatsOf_8 rfl (lv_at hl 0 rfl) ?_
    refine r_get C O (k := 5) (j := 3) (v := .ref (q 24)) fX1_21 rfl rfl rfl dX1_seatsOf_9 ?_
    refine lv_iload_n hx hb dX1_seatsOf_12 rfl (lv_at hl 1 rfl) ?_
    refine r_iald C O (k := 24) rfl hf.1 dX1_seatsOf_13 ?_
    have hf := hf.2
    refine lv_goto (tgt := 18) hx hb dX1_seatsOf_14 (by decide) ?_
    exact hE _ _ _ _ _ _ (vp_nar_int _) O hf dX1_seatsOf_18
theorem c_X1_seatsOf (l : Launch) (x1 : Int32) : MetI l yX1_seatsOf cX1_seatsOf 2 .int 1 21 LC 5 (fun q => [.int x1]) (w_X1_seatsOf x1) := mk_I (own := RX1) (by decide) rfl (fun q => Nat.le_of_ble_eq_true rfl) (fun C hE O hl hf => b_X1_seatsOf C hE x1 _ _ _ _ O hl hf)
end
section
variable {p : Program} {l : Launch} {e : Env} {R : Room} {s : State} {m : MethodId} {args : Array Value} {below : List Frame} {meth : Method} {c : Code} {E : State → Prop}
variable {D : va_G} {cs : Nat → ClassId} {q : Nat → Nat}
variable {Q : Int32 → St → Prop}
def w_X1_fromOf (x1 : Int32) (σ : St) (Q : Int32 → St → Prop) : Prop := w_X1_has x1 σ (fun r_2 σ_1 => (r_2 = 0 → (Q ((-1)) σ_1)) ∧ (¬ r_2 = 0 → (vp_in x1 20 ∧ (Q (σ_1.1 21 x1.toNatClampNeg) σ_1))))
set_option maxHeartbeats 4000000 in
set_option maxRecDepth 100000 in
theorem b_X1_fromOf (C : CX p R s m args meth c cX1_fromOf 2 RX1 1 21 D cs) (hE : RI p l e R s m args below meth c cX1_fromOf D cs LC q .int Q E) : ∀ (x1 : Int32) (σ : St) (H : Heap) (locs : List Loc) (ls : Array Slot), OK D cs LC q s σ H locs → lv_has ls 2 [(0, .ref (q 5)), (1, .int x1)] → w_X1_fromOf x1 σ Q → W p l e R s m args below meth c H locs 0 0 E (F0 m 0 ls []) := by
  have hx := C.1
  have hb := C.2.1
  intro x1 σ H locs ls O hl hf
  unfold w_X1_fromOf at hf
  refine lv_aload_n hx hb dX1_fromOf_0 rfl (lv_at hl 0 rfl) ?_
  refine lv_iload_n hx hb dX1_fromOf_1 rfl (lv_at hl 1 rfl) ?_
  refine r_callI C O hl (c_X1_has l x1) mX1_50 (by decide) rfl rfl rfl rfl (Nat.le_of_ble_eq_true rfl) hf dX1_fromOf_2 (fun r_2 σ_1 H locs O hf => ?_)
  refine lv_if_eq (tgt := 17) hx hb dX1_fromOf_5 (by decide) (fun c_3 => ?_) (fun c_3 => ?_)
  · have hf := hf.1 c_3
    refine lv_iconst (v := (-1)) hx hb dX1_fromOf_17 (by decide) ?_
    exact hE _ _ _ _ _ _ (vp_nar_int _) O hf dX1_fromOf_18
  · have hf := hf.2 c_3
    refine lv_aload_n hx hb dX1_fromOf_8 rfl (lv_at hl 0 rfl) ?_
    refine r_get C O (k := 5) (j := 0) (v := .ref (q 21)) fX1_11 rfl rfl rfl dX1_fromOf_9 ?_
    refine lv_iload_n hx hb dX1_fromOf_12 rfl (lv_at hl 1 rfl) ?_
    refine r_iald C O (k := 21) rfl hf.1 dX1_fromOf_13 ?_
    have hf := hf.2
    refine lv_goto (tgt := 18) hx hb dX1_fromOf_14 (by decide) ?_
    exact hE _ _ _ _ _ _ (vp_nar_int _) O hf dX1_fromOf_18
theorem c_X1_fromOf (l : Launch) (x1 : Int32) : MetI l yX1_fromOf cX1_fromOf 2 .int 1 21 LC 5 (fun q => [.int x1]) (w_X1_fromOf x1) := mk_I (own := RX1) (by decide) rfl (fun q => Nat.le_of_ble_eq_true rfl) (fun C hE O hl hf => b_X1_fromOf C hE x1 _ _ _ _ O hl hf)
end
section
variable {p : Program} {l : Launch} {e : Env} {R : Room} {s : State} {m : MethodId} {args : Array Value} {below : List Frame} {meth : Method} {c : Code} {E : State → Prop}
variable {D : va_G} {cs : Nat → ClassId} {q : Nat → Nat}
variable {Q : Int32 → St → Prop}
def w_X1_startOf (x1 : Int32) (σ : St) (Q : Int32 → St → Prop) : Prop := w_X1_has x1 σ (fun r_2 σ_1 => (r_2 = 0 → (Q ((-1)) σ_1)) ∧ (¬ r_2 = 0 → (vp_in x1 20 ∧ (Q (σ_1.1 23 x1.toNatClampNeg) σ_1))))
set_option maxHeartbeats 4000000 in
set_option maxRecDepth 100000 in
theorem b_X1_startOf (C : CX p R s m args meth c cX1_startOf 2 RX1 1 21 D cs) (hE : RI p l e R s m args below meth c cX1_startOf D cs LC q .int Q E) : ∀ (x1 : Int32) (σ : St) (H : Heap) (locs : List Loc) (ls : Array Slot), OK D cs LC q s σ H locs → lv_has ls 2 [(0, .ref (q 5)), (1, .int x1)] → w_X1_startOf x1 σ Q → W p l e R s m args below meth c H locs 0 0 E (F0 m 0 ls []) := by
  have hx := C.1
  have hb := C.2.1
  intro x1 σ H locs ls O hl hf
  unfold w_X1_startOf at hf
  refine lv_aload_n hx hb dX1_startOf_0 rfl (lv_at hl 0 rfl) ?_
  refine lv_iload_n hx hb dX1_startOf_1 rfl (lv_at hl 1 rfl) ?_
  refine r_callI C O hl (c_X1_has l x1) mX1_50 (by decide) rfl rfl rfl rfl (Nat.le_of_ble_eq_true rfl) hf dX1_startOf_2 (fun r_2 σ_1 H locs O hf => ?_)
  refine lv_if_eq (tgt := 17) hx hb dX1_startOf_5 (by decide) (fun c_3 => ?_) (fun c_3 => ?_)
  · have hf := hf.1 c_3
    refine lv_iconst (v := (-1)) hx hb dX1_startOf_17 (by decide) ?_
    exact hE _ _ _ _ _ _ (vp_nar_int _) O hf dX1_startOf_18
  · have hf := hf.2 c_3
    refine lv_aload_n hx hb dX1_startOf_8 rfl (lv_at hl 0 rfl) ?_
    refine r_get C O (k := 5) (j := 2) (v := .ref (q 23)) fX1_18 rfl rfl rfl dX1_startOf_9 ?_
    refine lv_iload_n hx hb dX1_startOf_12 rfl (lv_at hl 1 rfl) ?_
    refine r_iald C O (k := 23) rfl hf.1 dX1_startOf_13 ?_
    have hf := hf.2
    refine lv_goto (tgt := 18) hx hb dX1_startOf_14 (by decide) ?_
    exact hE _ _ _ _ _ _ (vp_nar_int _) O hf dX1_startOf_18
theorem c_X1_startOf (l : Launch) (x1 : Int32) : MetI l yX1_startOf cX1_startOf 2 .int 1 21 LC 5 (fun q => [.int x1]) (w_X1_startOf x1) := mk_I (own := RX1) (by decide) rfl (fun q => Nat.le_of_ble_eq_true rfl) (fun C hE O hl hf => b_X1_startOf C hE x1 _ _ _ _ O hl hf)
end
section
variable {p : Program} {l : Launch} {e : Env} {R : Room} {s : State} {m : MethodId} {args : Array Value} {below : List Frame} {meth : Method} {c : Code} {E : State → Prop}
variable {D : va_G} {cs : Nat → ClassId} {q : Nat → Nat}
variable {Q : Int32 → St → Prop}
def w_X9_minutes (x1 : Int32) (x2 : Int32) (σ : St) (Q : Int32 → St → Prop) : Prop := w_X10_isField x1 (fun r_1 => (r_1 = 0 → (Q 0 σ)) ∧ (¬ r_1 = 0 → (w_X10_isField x2 (fun r_3 => (r_3 = 0 → (Q 0 σ)) ∧ (¬ r_3 = 0 → (vp_in ((x1 * 8) + x2) 64 ∧ (Q (σ.1 16 ((x1 * 8) + x2).toNatClampNeg) σ)))))))
set_option maxHeartbeats 4000000 in
set_option maxRecDepth 100000 in
theorem b_X9_minutes (C : CX p R s m args meth c cX9_minutes 3 RX9 1 20 D cs) (hE : RI p l e R s m args below meth c cX9_minutes D cs LC q .int Q E) : ∀ (x1 : Int32) (x2 : Int32) (σ : St) (H : Heap) (locs : List Loc) (ls : Array Slot), OK D cs LC q s σ H locs → lv_has ls 3 [(0, .ref (q 3)), (1, .int x1), (2, .int x2)] → w_X9_minutes x1 x2 σ Q → W p l e R s m args below meth c H locs 0 0 E (F0 m 0 ls []) := by
  have hx := C.1
  have hb := C.2.1
  intro x1 x2 σ H locs ls O hl hf
  unfold w_X9_minutes at hf
  refine lv_iload_n hx hb dX9_minutes_0 rfl (lv_at hl 1 rfl) ?_
  refine r_callN C hl (c_X10_isField l x1) mX9_15 (by decide) rfl rfl (Nat.le_of_ble_eq_true rfl) hf dX9_minutes_1 (fun r_1 hf => ?_)
  refine lv_if_eq (tgt := 28) hx hb dX9_minutes_4 (by decide) (fun c_2 => ?_) (fun c_2 => ?_)
  · have hf := hf.1 c_2
    refine lv_iconst (v := 0) hx hb dX9_minutes_28 (by decide) ?_
    exact hE _ _ _ _ _ _ (vp_nar_int _) O hf dX9_minutes_29
  · have hf := hf.2 c_2
    refine lv_iload_n hx hb dX9_minutes_7 rfl (lv_at hl 2 rfl) ?_
    refine r_callN C hl (c_X10_isField l x2) mX9_15 (by decide) rfl rfl (Nat.le_of_ble_eq_true rfl) hf dX9_minutes_8 (fun r_3 hf => ?_)
    refine lv_if_eq (tgt := 28) hx hb dX9_minutes_11 (by decide) (fun c_4 => ?_) (fun c_4 => ?_)
    · have hf := hf.1 c_4
      refine lv_iconst (v := 0) hx hb dX9_minutes_28 (by decide) ?_
      exact hE _ _ _ _ _ _ (vp_nar_int _) O hf dX9_minutes_29
    · have hf := hf.2 c_4
      refine lv_aload_n hx hb dX9_minutes_14 rfl (lv_at hl 0 rfl) ?_
      refine r_get C O (k := 3) (j := 0) (v := .ref (q 16)) fX9_9 rfl rfl rfl dX9_minutes_15 ?_
      refine lv_iload_n hx hb dX9_minutes_18 rfl (lv_at hl 1 rfl) ?_
      refine lv_bipush (v := 8) hx hb dX9_minutes_19 (by decide) ?_
      refine lv_imul hx hb dX9_minutes_21 ?_
      refine lv_iload_n hx hb dX9_minutes_22 rfl (lv_at hl 2 rfl) ?_
      refine lv_iadd hx hb dX9_minutes_23 ?_
      refine r_iald C O (k := 16) rfl hf.1 dX9_minutes_24 ?_
      have hf := hf.2
      refine lv_goto (tgt := 29) hx hb dX9_minutes_25 (by decide) ?_
      exact hE _ _ _ _ _ _ (vp_nar_int _) O hf dX9_minutes_29
theorem c_X9_minutes (l : Launch) (x1 : Int32) (x2 : Int32) : MetI l yX9_minutes cX9_minutes 3 .int 1 20 LC 3 (fun q => [.int x1, .int x2]) (w_X9_minutes x1 x2) := mk_I (own := RX9) (by decide) rfl (fun q => Nat.le_of_ble_eq_true rfl) (fun C hE O hl hf => b_X9_minutes C hE x1 x2 _ _ _ _ O hl hf)
end
section
variable {p : Program} {l : Launch} {e : Env} {R : Room} {s : State} {m : MethodId} {args : Array Value} {below : List Frame} {meth : Method} {c : Code} {E : State → Prop}
variable {D : va_G} {cs : Nat → ClassId} {q : Nat → Nat}
variable {Q : Int32 → St → Prop}
def w_X7_shuts_2 (Q : Int32 → St → Prop) : Nat → Int32 → Int32 → Int32 → St → Prop
  | 0, _, _, _, _ => False
  | n + 1, x1, x2, x3, σ => ((σ.1 6 3) ≤ x3 → (Q 0 σ)) ∧ (¬ (σ.1 6 3) ≤ x3 → (vp_in x3 20 ∧ ((¬ (σ.1 27 x3.toNatClampNeg) = x1 → (w_X7_shuts_2 Q n x1 x2 (x3 + 1) σ)) ∧ ((σ.1 27 x3.toNatClampNeg) = x1 → (vp_in x3 20 ∧ ((x2 < (σ.1 28 x3.toNatClampNeg) → (w_X7_shuts_2 Q n x1 x2 (x3 + 1) σ)) ∧ (¬ x2 < (σ.1 28 x3.toNatClampNeg) → (vp_in x3 20 ∧ (((σ.1 29 x3.toNatClampNeg) ≤ x2 → (w_X7_shuts_2 Q n x1 x2 (x3 + 1) σ)) ∧ (¬ (σ.1 29 x3.toNatClampNeg) ≤ x2 → (Q 1 σ)))))))))))
set_option maxHeartbeats 4000000 in
set_option maxRecDepth 100000 in
theorem b_X7_shuts_2 (C : CX p R s m args meth c cX7_shuts 4 RX7 0 0 D cs) (hE : RI p l e R s m args below meth c cX7_shuts D cs LC q .boolean Q E) : ∀ n : Nat, ∀ (x1 : Int32) (x2 : Int32) (x3 : Int32) (σ : St) (H : Heap) (locs : List Loc) (ls : Array Slot), OK D cs LC q s σ H locs → lv_has ls 4 [(0, .ref (q 6)), (1, .int x1), (2, .int x2), (3, .int x3)] → w_X7_shuts_2 Q n x1 x2 x3 σ → W p l e R s m args below meth c H locs 0 0 E (F0 m 2 ls []) := by
  have hx := C.1
  have hb := C.2.1
  intro n
  induction n with
  | zero => intro x1 x2 x3 σ H locs ls O hl hf; exact hf.elim
  | succ n ih =>
    intro x1 x2 x3 σ H locs ls O hl hf
    unfold w_X7_shuts_2 at hf
    refine lv_iload_n hx hb dX7_shuts_2 rfl (lv_at hl 3 rfl) ?_
    refine lv_aload_n hx hb dX7_shuts_3 rfl (lv_at hl 0 rfl) ?_
    refine r_get C O (k := 6) (j := 3) (v := .int (σ.1 6 3)) fX7_21 rfl rfl rfl dX7_shuts_4 ?_
    refine lv_icmp_ge (tgt := 48) hx hb dX7_shuts_7 (by decide) (fun c_1 => ?_) (fun c_1 => ?_)
    · have hf := hf.1 c_1
      refine lv_iconst (v := 0) hx hb dX7_shuts_48 (by decide) ?_
      exact hE _ _ _ _ _ _ rfl O hf dX7_shuts_49
    · have hf := hf.2 c_1
      refine lv_aload_n hx hb dX7_shuts_10 rfl (lv_at hl 0 rfl) ?_
      refine r_get C O (k := 6) (j := 0) (v := .ref (q 27)) fX7_11 rfl rfl rfl dX7_shuts_11 ?_
      refine lv_iload_n hx hb dX7_shuts_14 rfl (lv_at hl 3 rfl) ?_
      refine r_iald C O (k := 27) rfl hf.1 dX7_shuts_15 ?_
      have hf := hf.2
      refine lv_iload_n hx hb dX7_shuts_16 rfl (lv_at hl 1 rfl) ?_
      refine lv_icmp_ne (tgt := 42) hx hb dX7_shuts_17 (by decide) (fun c_2 => ?_) (fun c_2 => ?_)
      · have hf := hf.1 c_2
        refine lv_iinc (v := x3 + 1) (lv' := [(3, .int (x3 + 1)), (0, .ref (q 6)), (1, .int x1), (2, .int x2)]) hx hb dX7_shuts_42 hl (k := 3) rfl rfl (by decide) rfl (fun ls hl => ?_)
        refine lv_goto (tgt := 2) hx hb dX7_shuts_45 (by decide) ?_
        exact ih x1 x2 (x3 + 1) σ _ _ ls O (lv_sub hl [1, 2, 3, 0] rfl) hf
      · have hf := hf.2 c_2
        refine lv_iload_n hx hb dX7_shuts_20 rfl (lv_at hl 2 rfl) ?_
        refine lv_aload_n hx hb dX7_shuts_21 rfl (lv_at hl 0 rfl) ?_
        refine r_get C O (k := 6) (j := 1) (v := .ref (q 28)) fX7_15 rfl rfl rfl dX7_shuts_22 ?_
        refine lv_iload_n hx hb dX7_shuts_25 rfl (lv_at hl 3 rfl) ?_
        refine r_iald C O (k := 28) rfl hf.1 dX7_shuts_26 ?_
        have hf := hf.2
        refine lv_icmp_lt (tgt := 42) hx hb dX7_shuts_27 (by decide) (fun c_3 => ?_) (fun c_3 => ?_)
        · have hf := hf.1 c_3
          refine lv_iinc (v := x3 + 1) (lv' := [(3, .int (x3 + 1)), (0, .ref (q 6)), (1, .int x1), (2, .int x2)]) hx hb dX7_shuts_42 hl (k := 3) rfl rfl (by decide) rfl (fun ls hl => ?_)
          refine lv_goto (tgt := 2) hx hb dX7_shuts_45 (by decide) ?_
          exact ih x1 x2 (x3 + 1) σ _ _ ls O (lv_sub hl [1, 2, 3, 0] rfl) hf
        · have hf := hf.2 c_3
          refine lv_iload_n hx hb dX7_shuts_30 rfl (lv_at hl 2 rfl) ?_
          refine lv_aload_n hx hb dX7_shuts_31 rfl (lv_at hl 0 rfl) ?_
          refine r_get C O (k := 6) (j := 2) (v := .ref (q 29)) fX7_18 rfl rfl rfl dX7_shuts_32 ?_
          refine lv_iload_n hx hb dX7_shuts_35 rfl (lv_at hl 3 rfl) ?_
          refine r_iald C O (k := 29) rfl hf.1 dX7_shuts_36 ?_
          have hf := hf.2
          refine lv_icmp_ge (tgt := 42) hx hb dX7_shuts_37 (by decide) (fun c_4 => ?_) (fun c_4 => ?_)
          · have hf := hf.1 c_4
            refine lv_iinc (v := x3 + 1) (lv' := [(3, .int (x3 + 1)), (0, .ref (q 6)), (1, .int x1), (2, .int x2)]) hx hb dX7_shuts_42 hl (k := 3) rfl rfl (by decide) rfl (fun ls hl => ?_)
            refine lv_goto (tgt := 2) hx hb dX7_shuts_45 (by decide) ?_
            exact ih x1 x2 (x3 + 1) σ _ _ ls O (lv_sub hl [1, 2, 3, 0] rfl) hf
          · have hf := hf.2 c_4
            refine lv_iconst (v := 1) hx hb dX7_shuts_40 (by decide) ?_
            exact hE _ _ _ _ _ _ rfl O hf dX7_shuts_41
def w_X7_shuts (x1 : Int32) (x2 : Int32) (σ : St) (Q : Int32 → St → Prop) : Prop := ∃ n : Nat, w_X7_shuts_2 Q n x1 x2 0 σ
set_option maxHeartbeats 4000000 in
set_option maxRecDepth 100000 in
theorem b_X7_shuts (C : CX p R s m args meth c cX7_shuts 4 RX7 0 0 D cs) (hE : RI p l e R s m args below meth c cX7_shuts D cs LC q .boolean Q E) : ∀ (x1 : Int32) (x2 : Int32) (σ : St) (H : Heap) (locs : List Loc) (ls : Array Slot), OK D cs LC q s σ H locs → lv_has ls 4 [(0, .ref (q 6)), (1, .int x1), (2, .int x2)] → w_X7_shuts x1 x2 σ Q → W p l e R s m args below meth c H locs 0 0 E (F0 m 0 ls []) := by
  have hx := C.1
  have hb := C.2.1
  intro x1 x2 σ H locs ls O hl hf
  unfold w_X7_shuts at hf
  refine lv_iconst (v := 0) hx hb dX7_shuts_0 (by decide) ?_
  refine lv_istore_n (lv' := [(3, .int 0), (0, .ref (q 6)), (1, .int x1), (2, .int x2)]) hx hb dX7_shuts_1 rfl hl (by decide) rfl (fun ls hl => ?_)
  obtain ⟨nn, hf⟩ := hf
  exact b_X7_shuts_2 C hE nn x1 x2 0 σ _ _ ls O (lv_sub hl [1, 2, 3, 0] rfl) hf
theorem c_X7_shuts (l : Launch) (x1 : Int32) (x2 : Int32) : MetI l yX7_shuts cX7_shuts 4 .boolean 0 0 LC 6 (fun q => [.int x1, .int x2]) (w_X7_shuts x1 x2) := mk_I (own := RX7) (by decide) rfl (fun q => Nat.le_of_ble_eq_true rfl) (fun C hE O hl hf => b_X7_shuts C hE x1 x2 _ _ _ _ O hl hf)
end
section
variable {p : Program} {l : Launch} {e : Env} {R : Room} {s : State} {m : MethodId} {args : Array Value} {below : List Frame} {meth : Method} {c : Code} {E : State → Prop}
variable {D : va_G} {cs : Nat → ClassId} {q : Nat → Nat}
variable {Q : Int32 → St → Prop}
def w_X1_toOf (x1 : Int32) (σ : St) (Q : Int32 → St → Prop) : Prop := w_X1_has x1 σ (fun r_2 σ_1 => (r_2 = 0 → (Q ((-1)) σ_1)) ∧ (¬ r_2 = 0 → (vp_in x1 20 ∧ (Q (σ_1.1 22 x1.toNatClampNeg) σ_1))))
set_option maxHeartbeats 4000000 in
set_option maxRecDepth 100000 in
theorem b_X1_toOf (C : CX p R s m args meth c cX1_toOf 2 RX1 1 21 D cs) (hE : RI p l e R s m args below meth c cX1_toOf D cs LC q .int Q E) : ∀ (x1 : Int32) (σ : St) (H : Heap) (locs : List Loc) (ls : Array Slot), OK D cs LC q s σ H locs → lv_has ls 2 [(0, .ref (q 5)), (1, .int x1)] → w_X1_toOf x1 σ Q → W p l e R s m args below meth c H locs 0 0 E (F0 m 0 ls []) := by
  have hx := C.1
  have hb := C.2.1
  intro x1 σ H locs ls O hl hf
  unfold w_X1_toOf at hf
  refine lv_aload_n hx hb dX1_toOf_0 rfl (lv_at hl 0 rfl) ?_
  refine lv_iload_n hx hb dX1_toOf_1 rfl (lv_at hl 1 rfl) ?_
  refine r_callI C O hl (c_X1_has l x1) mX1_50 (by decide) rfl rfl rfl rfl (Nat.le_of_ble_eq_true rfl) hf dX1_toOf_2 (fun r_2 σ_1 H locs O hf => ?_)
  refine lv_if_eq (tgt := 17) hx hb dX1_toOf_5 (by decide) (fun c_3 => ?_) (fun c_3 => ?_)
  · have hf := hf.1 c_3
    refine lv_iconst (v := (-1)) hx hb dX1_toOf_17 (by decide) ?_
    exact hE _ _ _ _ _ _ (vp_nar_int _) O hf dX1_toOf_18
  · have hf := hf.2 c_3
    refine lv_aload_n hx hb dX1_toOf_8 rfl (lv_at hl 0 rfl) ?_
    refine r_get C O (k := 5) (j := 1) (v := .ref (q 22)) fX1_15 rfl rfl rfl dX1_toOf_9 ?_
    refine lv_iload_n hx hb dX1_toOf_12 rfl (lv_at hl 1 rfl) ?_
    refine r_iald C O (k := 22) rfl hf.1 dX1_toOf_13 ?_
    have hf := hf.2
    refine lv_goto (tgt := 18) hx hb dX1_toOf_14 (by decide) ?_
    exact hE _ _ _ _ _ _ (vp_nar_int _) O hf dX1_toOf_18
theorem c_X1_toOf (l : Launch) (x1 : Int32) : MetI l yX1_toOf cX1_toOf 2 .int 1 21 LC 5 (fun q => [.int x1]) (w_X1_toOf x1) := mk_I (own := RX1) (by decide) rfl (fun q => Nat.le_of_ble_eq_true rfl) (fun C hE O hl hf => b_X1_toOf C hE x1 _ _ _ _ O hl hf)
end
section
variable {p : Program} {l : Launch} {e : Env} {R : Room} {s : State} {m : MethodId} {args : Array Value} {below : List Frame} {meth : Method} {c : Code} {E : State → Prop}
variable {D : va_G} {cs : Nat → ClassId} {q : Nat → Nat}
variable {Q : St → Prop}
def w_X1_lineUp_55 (Q : St → Prop) (x1 : Int32) (x3 : Int32) (σ : St) : Prop := vp_in x3 20 ∧ (∀ σ_1 : St, σ_1 = wr σ 26 x3.toNatClampNeg x1 → (Q σ_1))
set_option maxHeartbeats 4000000 in
set_option maxRecDepth 100000 in
theorem b_X1_lineUp_55 (C : CX p R s m args meth c cX1_lineUp 5 RX1 2 42 D cs) (hE : RV p l e R s m args below meth c cX1_lineUp D cs LC q Q E) : ∀ (x1 : Int32) (x3 : Int32) (σ : St) (H : Heap) (locs : List Loc) (ls : Array Slot), OK D cs LC q s σ H locs → lv_has ls 5 [(0, .ref (q 5)), (1, .int x1), (3, .int x3)] → w_X1_lineUp_55 Q x1 x3 σ → W p l e R s m args below meth c H locs 0 0 E (F0 m 55 ls []) := by
  have hx := C.1
  have hb := C.2.1
  intro x1 x3 σ H locs ls O hl hf
  unfold w_X1_lineUp_55 at hf
  refine lv_aload_n hx hb dX1_lineUp_55 rfl (lv_at hl 0 rfl) ?_
  refine r_get C O (k := 5) (j := 5) (v := .ref (q 26)) fX1_28 rfl rfl rfl dX1_lineUp_56 ?_
  refine lv_iload_n hx hb dX1_lineUp_59 rfl (lv_at hl 2 rfl) ?_
  refine lv_iload_n hx hb dX1_lineUp_60 rfl (lv_at hl 1 rfl) ?_
  refine r_iast C O (k := 26) rfl hf.1 dX1_lineUp_61 (fun H locs σ_1 eσ_1 O => ?_)
  have hf := hf.2 σ_1 eσ_1
  exact hE _ _ _ _ _ O hf dX1_lineUp_62
def w_X1_lineUp_7 (Q : St → Prop) : Nat → Int32 → Int32 → Int32 → Int32 → St → Prop
  | 0, _, _, _, _, _ => False
  | n + 1, x1, x2, x3, x4, σ => (x4 < 0 → (w_X1_lineUp_55 Q x1 x3 σ)) ∧ (¬ x4 < 0 → (vp_in x4 20 ∧ (w_X1_startOf (σ.1 26 x4.toNatClampNeg) σ (fun r_3 σ_2 => (x2 < r_3 → (vp_in x4 20 ∧ (vp_in (x4 + 1) 20 ∧ (∀ σ_5 : St, σ_5 = wr σ_2 26 (x4 + 1).toNatClampNeg (σ_2.1 26 x4.toNatClampNeg) → (w_X1_lineUp_7 Q n x1 x2 x4 (x4 + (-1)) σ_5))))) ∧ (¬ x2 < r_3 → (w_X1_lineUp_55 Q x1 x3 σ_2))))))
set_option maxHeartbeats 4000000 in
set_option maxRecDepth 100000 in
theorem b_X1_lineUp_7 (C : CX p R s m args meth c cX1_lineUp 5 RX1 2 42 D cs) (hE : RV p l e R s m args below meth c cX1_lineUp D cs LC q Q E) : ∀ n : Nat, ∀ (x1 : Int32) (x2 : Int32) (x3 : Int32) (x4 : Int32) (σ : St) (H : Heap) (locs : List Loc) (ls : Array Slot), OK D cs LC q s σ H locs → lv_has ls 5 [(0, .ref (q 5)), (1, .int x1), (2, .int x2), (3, .int x3), (4, .int x4)] → w_X1_lineUp_7 Q n x1 x2 x3 x4 σ → W p l e R s m args below meth c H locs 0 0 E (F0 m 7 ls []) := by
  have hx := C.1
  have hb := C.2.1
  intro n
  induction n with
  | zero => intro x1 x2 x3 x4 σ H locs ls O hl hf; exact hf.elim
  | succ n ih =>
    intro x1 x2 x3 x4 σ H locs ls O hl hf
    unfold w_X1_lineUp_7 at hf
    refine lv_iload hx hb dX1_lineUp_7 (lv_at hl 4 rfl) ?_
    refine lv_if_lt (tgt := 55) hx hb dX1_lineUp_9 (by decide) (fun c_1 => ?_) (fun c_1 => ?_)
    · have hf := hf.1 c_1
      exact b_X1_lineUp_55 C hE x1 x3 σ _ _ ls O (lv_sub hl [0, 1, 3] rfl) hf
    · have hf := hf.2 c_1
      refine lv_aload_n hx hb dX1_lineUp_12 rfl (lv_at hl 0 rfl) ?_
      refine lv_aload_n hx hb dX1_lineUp_13 rfl (lv_at hl 0 rfl) ?_
      refine r_get C O (k := 5) (j := 5) (v := .ref (q 26)) fX1_28 rfl rfl rfl dX1_lineUp_14 ?_
      refine lv_iload hx hb dX1_lineUp_17 (lv_at hl 4 rfl) ?_
      refine r_iald C O (k := 26) rfl hf.1 dX1_lineUp_19 ?_
      have hf := hf.2
      refine r_callI C O hl (c_X1_startOf l (σ.1 26 x4.toNatClampNeg)) mX1_42 (by decide) rfl rfl rfl rfl (Nat.le_of_ble_eq_true rfl) hf dX1_lineUp_20 (fun r_3 σ_2 H locs O hf => ?_)
      refine lv_iload_n hx hb dX1_lineUp_23 rfl (lv_at hl 2 rfl) ?_
      refine lv_icmp_gt (tgt := 30) hx hb dX1_lineUp_24 (by decide) (fun c_4 => ?_) (fun c_4 => ?_)
      · have hf := hf.1 c_4
        refine lv_aload_n hx hb dX1_lineUp_30 rfl (lv_at hl 0 rfl) ?_
        refine r_get C O (k := 5) (j := 5) (v := .ref (q 26)) fX1_28 rfl rfl rfl dX1_lineUp_31 ?_
        refine lv_iload hx hb dX1_lineUp_34 (lv_at hl 4 rfl) ?_
        refine lv_iconst (v := 1) hx hb dX1_lineUp_36 (by decide) ?_
        refine lv_iadd hx hb dX1_lineUp_37 ?_
        refine lv_aload_n hx hb dX1_lineUp_38 rfl (lv_at hl 0 rfl) ?_
        refine r_get C O (k := 5) (j := 5) (v := .ref (q 26)) fX1_28 rfl rfl rfl dX1_lineUp_39 ?_
        refine lv_iload hx hb dX1_lineUp_42 (lv_at hl 4 rfl) ?_
        refine r_iald C O (k := 26) rfl hf.1 dX1_lineUp_44 ?_
        have hf := hf.2
        refine r_iast C O (k := 26) rfl hf.1 dX1_lineUp_45 (fun H locs σ_5 eσ_5 O => ?_)
        have hf := hf.2 σ_5 eσ_5
        refine lv_iload hx hb dX1_lineUp_46 (lv_at hl 4 rfl) ?_
        refine lv_istore_n (lv' := [(3, .int x4), (0, .ref (q 5)), (1, .int x1), (2, .int x2), (4, .int x4)]) hx hb dX1_lineUp_48 rfl hl (by decide) rfl (fun ls hl => ?_)
        refine lv_iinc (v := x4 + (-1)) (lv' := [(4, .int (x4 + (-1))), (3, .int x4), (0, .ref (q 5)), (1, .int x1), (2, .int x2)]) hx hb dX1_lineUp_49 hl (k := 4) rfl rfl (by decide) rfl (fun ls hl => ?_)
        refine lv_goto (tgt := 7) hx hb dX1_lineUp_52 (by decide) ?_
        exact ih x1 x2 x4 (x4 + (-1)) σ_5 _ _ ls O (lv_sub hl [2, 3, 4, 1, 0] rfl) hf
      · have hf := hf.2 c_4
        refine lv_goto (tgt := 55) hx hb dX1_lineUp_27 (by decide) ?_
        exact b_X1_lineUp_55 C hE x1 x3 σ_2 _ _ ls O (lv_sub hl [0, 1, 3] rfl) hf
def w_X1_lineUp (x1 : Int32) (x2 : Int32) (σ : St) (Q : St → Prop) : Prop := ∃ n : Nat, w_X1_lineUp_7 Q n x1 x2 x1 (x1 - 1) σ
set_option maxHeartbeats 4000000 in
set_option maxRecDepth 100000 in
theorem b_X1_lineUp (C : CX p R s m args meth c cX1_lineUp 5 RX1 2 42 D cs) (hE : RV p l e R s m args below meth c cX1_lineUp D cs LC q Q E) : ∀ (x1 : Int32) (x2 : Int32) (σ : St) (H : Heap) (locs : List Loc) (ls : Array Slot), OK D cs LC q s σ H locs → lv_has ls 5 [(0, .ref (q 5)), (1, .int x1), (2, .int x2)] → w_X1_lineUp x1 x2 σ Q → W p l e R s m args below meth c H locs 0 0 E (F0 m 0 ls []) := by
  have hx := C.1
  have hb := C.2.1
  intro x1 x2 σ H locs ls O hl hf
  unfold w_X1_lineUp at hf
  refine lv_iload_n hx hb dX1_lineUp_0 rfl (lv_at hl 1 rfl) ?_
  refine lv_istore_n (lv' := [(3, .int x1), (0, .ref (q 5)), (1, .int x1), (2, .int x2)]) hx hb dX1_lineUp_1 rfl hl (by decide) rfl (fun ls hl => ?_)
  refine lv_iload_n hx hb dX1_lineUp_2 rfl (lv_at hl 2 rfl) ?_
  refine lv_iconst (v := 1) hx hb dX1_lineUp_3 (by decide) ?_
  refine lv_isub hx hb dX1_lineUp_4 ?_
  refine lv_istore (lv' := [(4, .int (x1 - 1)), (3, .int x1), (0, .ref (q 5)), (1, .int x1), (2, .int x2)]) hx hb dX1_lineUp_5 hl (by decide) rfl (fun ls hl => ?_)
  obtain ⟨nn, hf⟩ := hf
  exact b_X1_lineUp_7 C hE nn x1 x2 x1 (x1 - 1) σ _ _ ls O (lv_sub hl [2, 3, 4, 1, 0] rfl) hf
theorem c_X1_lineUp (l : Launch) (x1 : Int32) (x2 : Int32) : MetV l yX1_lineUp cX1_lineUp 5 2 42 LC 5 (fun q => [.int x1, .int x2]) (w_X1_lineUp x1 x2) := mk_V (own := RX1) (by decide) rfl (fun q => Nat.le_of_ble_eq_true rfl) (fun C hE O hl hf => b_X1_lineUp C hE x1 x2 _ _ _ _ O hl hf)
end
section
variable {p : Program} {l : Launch} {e : Env} {R : Room} {s : State} {m : MethodId} {args : Array Value} {below : List Frame} {meth : Method} {c : Code} {E : State → Prop}
variable {D : va_G} {cs : Nat → ClassId} {q : Nat → Nat}
variable {Q : Int32 → St → Prop}
def w_X1_add (x1 : Int32) (x2 : Int32) (x3 : Int32) (x4 : Int32) (σ : St) (Q : Int32 → St → Prop) : Prop := (20 ≤ (σ.1 5 6) → (Q ((-1)) σ)) ∧ (¬ 20 ≤ (σ.1 5 6) → (((σ.1 5 7) < 8 → (vp_in (σ.1 5 6) 20 ∧ (∀ σ_3 : St, σ_3 = wr σ 21 (σ.1 5 6).toNatClampNeg x1 → (vp_in (σ_3.1 5 6) 20 ∧ (∀ σ_4 : St, σ_4 = wr σ_3 22 (σ_3.1 5 6).toNatClampNeg x2 → (vp_in (σ_4.1 5 6) 20 ∧ (∀ σ_5 : St, σ_5 = wr σ_4 23 (σ_4.1 5 6).toNatClampNeg x3 → (vp_in (σ_5.1 5 6) 20 ∧ (∀ σ_6 : St, σ_6 = wr σ_5 24 (σ_5.1 5 6).toNatClampNeg x4 → (vp_in (σ_6.1 5 6) 20 ∧ (∀ σ_7 : St, σ_7 = wr σ_6 25 (σ_6.1 5 6).toNatClampNeg (0 &&& 1) → (w_X1_lineUp (σ_7.1 5 6) x3 σ_7 (fun σ_8 => ∀ σ_9 : St, σ_9 = wr σ_8 5 6 ((σ_8.1 5 6) + 1) → (∀ σ_10 : St, σ_10 = wr σ_9 5 7 ((σ_9.1 5 7) + 1) → (Q ((σ_10.1 5 6) - 1) σ_10))))))))))))))) ∧ (¬ (σ.1 5 7) < 8 → (Q ((-1)) σ))))
set_option maxHeartbeats 4000000 in
set_option maxRecDepth 100000 in
theorem b_X1_add (C : CX p R s m args meth c cX1_add 5 RX1 3 66 D cs) (hE : RI p l e R s m args below meth c cX1_add D cs LC q .int Q E) : ∀ (x1 : Int32) (x2 : Int32) (x3 : Int32) (x4 : Int32) (σ : St) (H : Heap) (locs : List Loc) (ls : Array Slot), OK D cs LC q s σ H locs → lv_has ls 5 [(0, .ref (q 5)), (1, .int x1), (2, .int x2), (3, .int x3), (4, .int x4)] → w_X1_add x1 x2 x3 x4 σ Q → W p l e R s m args below meth c H locs 0 0 E (F0 m 0 ls []) := by
  have hx := C.1
  have hb := C.2.1
  intro x1 x2 x3 x4 σ H locs ls O hl hf
  unfold w_X1_add at hf
  refine lv_aload_n hx hb dX1_add_0 rfl (lv_at hl 0 rfl) ?_
  refine r_get C O (k := 5) (j := 6) (v := .int (σ.1 5 6)) fX1_31 rfl rfl rfl dX1_add_1 ?_
  refine lv_bipush (v := 20) hx hb dX1_add_4 (by decide) ?_
  refine lv_icmp_ge (tgt := 18) hx hb dX1_add_6 (by decide) (fun c_1 => ?_) (fun c_1 => ?_)
  · have hf := hf.1 c_1
    refine lv_iconst (v := (-1)) hx hb dX1_add_18 (by decide) ?_
    exact hE _ _ _ _ _ _ (vp_nar_int _) O hf dX1_add_19
  · have hf := hf.2 c_1
    refine lv_aload_n hx hb dX1_add_9 rfl (lv_at hl 0 rfl) ?_
    refine r_get C O (k := 5) (j := 7) (v := .int (σ.1 5 7)) fX1_35 rfl rfl rfl dX1_add_10 ?_
    refine lv_bipush (v := 8) hx hb dX1_add_13 (by decide) ?_
    refine lv_icmp_lt (tgt := 20) hx hb dX1_add_15 (by decide) (fun c_2 => ?_) (fun c_2 => ?_)
    · have hf := hf.1 c_2
      refine lv_aload_n hx hb dX1_add_20 rfl (lv_at hl 0 rfl) ?_
      refine r_get C O (k := 5) (j := 0) (v := .ref (q 21)) fX1_11 rfl rfl rfl dX1_add_21 ?_
      refine lv_aload_n hx hb dX1_add_24 rfl (lv_at hl 0 rfl) ?_
      refine r_get C O (k := 5) (j := 6) (v := .int (σ.1 5 6)) fX1_31 rfl rfl rfl dX1_add_25 ?_
      refine lv_iload_n hx hb dX1_add_28 rfl (lv_at hl 1 rfl) ?_
      refine r_iast C O (k := 21) rfl hf.1 dX1_add_29 (fun H locs σ_3 eσ_3 O => ?_)
      have hf := hf.2 σ_3 eσ_3
      refine lv_aload_n hx hb dX1_add_30 rfl (lv_at hl 0 rfl) ?_
      refine r_get C O (k := 5) (j := 1) (v := .ref (q 22)) fX1_15 rfl rfl rfl dX1_add_31 ?_
      refine lv_aload_n hx hb dX1_add_34 rfl (lv_at hl 0 rfl) ?_
      refine r_get C O (k := 5) (j := 6) (v := .int (σ_3.1 5 6)) fX1_31 rfl rfl rfl dX1_add_35 ?_
      refine lv_iload_n hx hb dX1_add_38 rfl (lv_at hl 2 rfl) ?_
      refine r_iast C O (k := 22) rfl hf.1 dX1_add_39 (fun H locs σ_4 eσ_4 O => ?_)
      have hf := hf.2 σ_4 eσ_4
      refine lv_aload_n hx hb dX1_add_40 rfl (lv_at hl 0 rfl) ?_
      refine r_get C O (k := 5) (j := 2) (v := .ref (q 23)) fX1_18 rfl rfl rfl dX1_add_41 ?_
      refine lv_aload_n hx hb dX1_add_44 rfl (lv_at hl 0 rfl) ?_
      refine r_get C O (k := 5) (j := 6) (v := .int (σ_4.1 5 6)) fX1_31 rfl rfl rfl dX1_add_45 ?_
      refine lv_iload_n hx hb dX1_add_48 rfl (lv_at hl 3 rfl) ?_
      refine r_iast C O (k := 23) rfl hf.1 dX1_add_49 (fun H locs σ_5 eσ_5 O => ?_)
      have hf := hf.2 σ_5 eσ_5
      refine lv_aload_n hx hb dX1_add_50 rfl (lv_at hl 0 rfl) ?_
      refine r_get C O (k := 5) (j := 3) (v := .ref (q 24)) fX1_21 rfl rfl rfl dX1_add_51 ?_
      refine lv_aload_n hx hb dX1_add_54 rfl (lv_at hl 0 rfl) ?_
      refine r_get C O (k := 5) (j := 6) (v := .int (σ_5.1 5 6)) fX1_31 rfl rfl rfl dX1_add_55 ?_
      refine lv_iload hx hb dX1_add_58 (lv_at hl 4 rfl) ?_
      refine r_iast C O (k := 24) rfl hf.1 dX1_add_60 (fun H locs σ_6 eσ_6 O => ?_)
      have hf := hf.2 σ_6 eσ_6
      refine lv_aload_n hx hb dX1_add_61 rfl (lv_at hl 0 rfl) ?_
      refine r_get C O (k := 5) (j := 4) (v := .ref (q 25)) fX1_24 rfl rfl rfl dX1_add_62 ?_
      refine lv_aload_n hx hb dX1_add_65 rfl (lv_at hl 0 rfl) ?_
      refine r_get C O (k := 5) (j := 6) (v := .int (σ_6.1 5 6)) fX1_31 rfl rfl rfl dX1_add_66 ?_
      refine lv_iconst (v := 0) hx hb dX1_add_69 (by decide) ?_
      refine r_zast C O (k := 25) rfl hf.1 dX1_add_70 (fun H locs σ_7 eσ_7 O => ?_)
      have hf := hf.2 σ_7 eσ_7
      refine lv_aload_n hx hb dX1_add_71 rfl (lv_at hl 0 rfl) ?_
      refine lv_aload_n hx hb dX1_add_72 rfl (lv_at hl 0 rfl) ?_
      refine r_get C O (k := 5) (j := 6) (v := .int (σ_7.1 5 6)) fX1_31 rfl rfl rfl dX1_add_73 ?_
      refine lv_iload_n hx hb dX1_add_76 rfl (lv_at hl 3 rfl) ?_
      refine r_callV C O hl (c_X1_lineUp l (σ_7.1 5 6) x3) mX1_38 (by decide) rfl rfl rfl rfl (Nat.le_of_ble_eq_true rfl) hf dX1_add_77 (fun σ_8 H locs O hf => ?_)
      refine lv_aload_n hx hb dX1_add_80 rfl (lv_at hl 0 rfl) ?_
      refine lv_dup hx hb dX1_add_81 rfl ?_
      refine r_get C O (k := 5) (j := 6) (v := .int (σ_8.1 5 6)) fX1_31 rfl rfl rfl dX1_add_82 ?_
      refine lv_iconst (v := 1) hx hb dX1_add_85 (by decide) ?_
      refine lv_iadd hx hb dX1_add_86 ?_
      refine r_puti C O (k := 5) pX1_31 rfl rfl dX1_add_87 (fun H locs σ_9 eσ_9 O => ?_)
      have hf := hf σ_9 eσ_9
      refine lv_aload_n hx hb dX1_add_90 rfl (lv_at hl 0 rfl) ?_
      refine lv_dup hx hb dX1_add_91 rfl ?_
      refine r_get C O (k := 5) (j := 7) (v := .int (σ_9.1 5 7)) fX1_35 rfl rfl rfl dX1_add_92 ?_
      refine lv_iconst (v := 1) hx hb dX1_add_95 (by decide) ?_
      refine lv_iadd hx hb dX1_add_96 ?_
      refine r_puti C O (k := 5) pX1_35 rfl rfl dX1_add_97 (fun H locs σ_10 eσ_10 O => ?_)
      have hf := hf σ_10 eσ_10
      refine lv_aload_n hx hb dX1_add_100 rfl (lv_at hl 0 rfl) ?_
      refine r_get C O (k := 5) (j := 6) (v := .int (σ_10.1 5 6)) fX1_31 rfl rfl rfl dX1_add_101 ?_
      refine lv_iconst (v := 1) hx hb dX1_add_104 (by decide) ?_
      refine lv_isub hx hb dX1_add_105 ?_
      exact hE _ _ _ _ _ _ (vp_nar_int _) O hf dX1_add_106
    · have hf := hf.2 c_2
      refine lv_iconst (v := (-1)) hx hb dX1_add_18 (by decide) ?_
      exact hE _ _ _ _ _ _ (vp_nar_int _) O hf dX1_add_19
theorem c_X1_add (l : Launch) (x1 : Int32) (x2 : Int32) (x3 : Int32) (x4 : Int32) : MetI l yX1_add cX1_add 5 .int 3 66 LC 5 (fun q => [.int x1, .int x2, .int x3, .int x4]) (w_X1_add x1 x2 x3 x4) := mk_I (own := RX1) (by decide) rfl (fun q => Nat.le_of_ble_eq_true rfl) (fun C hE O hl hf => b_X1_add C hE x1 x2 x3 x4 _ _ _ _ O hl hf)
end
section
variable {p : Program} {l : Launch} {e : Env} {R : Room} {s : State} {m : MethodId} {args : Array Value} {below : List Frame} {meth : Method} {c : Code} {E : State → Prop}
variable {D : va_G} {cs : Nat → ClassId} {q : Nat → Nat}
variable {Q : Int32 → St → Prop}
def w_X1_isLive (x1 : Int32) (σ : St) (Q : Int32 → St → Prop) : Prop := w_X1_has x1 σ (fun r_2 σ_1 => (r_2 = 0 → (Q 0 σ_1)) ∧ (¬ r_2 = 0 → (vp_in x1 20 ∧ ((¬ (σ_1.1 25 x1.toNatClampNeg) = 0 → (Q 0 σ_1)) ∧ ((σ_1.1 25 x1.toNatClampNeg) = 0 → (Q 1 σ_1))))))
set_option maxHeartbeats 4000000 in
set_option maxRecDepth 100000 in
theorem b_X1_isLive (C : CX p R s m args meth c cX1_isLive 2 RX1 1 21 D cs) (hE : RI p l e R s m args below meth c cX1_isLive D cs LC q .boolean Q E) : ∀ (x1 : Int32) (σ : St) (H : Heap) (locs : List Loc) (ls : Array Slot), OK D cs LC q s σ H locs → lv_has ls 2 [(0, .ref (q 5)), (1, .int x1)] → w_X1_isLive x1 σ Q → W p l e R s m args below meth c H locs 0 0 E (F0 m 0 ls []) := by
  have hx := C.1
  have hb := C.2.1
  intro x1 σ H locs ls O hl hf
  unfold w_X1_isLive at hf
  refine lv_aload_n hx hb dX1_isLive_0 rfl (lv_at hl 0 rfl) ?_
  refine lv_iload_n hx hb dX1_isLive_1 rfl (lv_at hl 1 rfl) ?_
  refine r_callI C O hl (c_X1_has l x1) mX1_50 (by decide) rfl rfl rfl rfl (Nat.le_of_ble_eq_true rfl) hf dX1_isLive_2 (fun r_2 σ_1 H locs O hf => ?_)
  refine lv_if_eq (tgt := 21) hx hb dX1_isLive_5 (by decide) (fun c_3 => ?_) (fun c_3 => ?_)
  · have hf := hf.1 c_3
    refine lv_iconst (v := 0) hx hb dX1_isLive_21 (by decide) ?_
    exact hE _ _ _ _ _ _ rfl O hf dX1_isLive_22
  · have hf := hf.2 c_3
    refine lv_aload_n hx hb dX1_isLive_8 rfl (lv_at hl 0 rfl) ?_
    refine r_get C O (k := 5) (j := 4) (v := .ref (q 25)) fX1_24 rfl rfl rfl dX1_isLive_9 ?_
    refine lv_iload_n hx hb dX1_isLive_12 rfl (lv_at hl 1 rfl) ?_
    refine r_zald C O (k := 25) rfl hf.1 dX1_isLive_13 ?_
    have hf := hf.2
    refine lv_if_ne (tgt := 21) hx hb dX1_isLive_14 (by decide) (fun c_4 => ?_) (fun c_4 => ?_)
    · have hf := hf.1 c_4
      refine lv_iconst (v := 0) hx hb dX1_isLive_21 (by decide) ?_
      exact hE _ _ _ _ _ _ rfl O hf dX1_isLive_22
    · have hf := hf.2 c_4
      refine lv_iconst (v := 1) hx hb dX1_isLive_17 (by decide) ?_
      refine lv_goto (tgt := 22) hx hb dX1_isLive_18 (by decide) ?_
      exact hE _ _ _ _ _ _ rfl O hf dX1_isLive_22
theorem c_X1_isLive (l : Launch) (x1 : Int32) : MetI l yX1_isLive cX1_isLive 2 .boolean 1 21 LC 5 (fun q => [.int x1]) (w_X1_isLive x1) := mk_I (own := RX1) (by decide) rfl (fun q => Nat.le_of_ble_eq_true rfl) (fun C hE O hl hf => b_X1_isLive C hE x1 _ _ _ _ O hl hf)
end
section
variable {p : Program} {l : Launch} {e : Env} {R : Room} {s : State} {m : MethodId} {args : Array Value} {below : List Frame} {meth : Method} {c : Code} {E : State → Prop}
variable {D : va_G} {cs : Nat → ClassId} {q : Nat → Nat}
variable {Q : St → Prop}
def w_X1_strike (x1 : Int32) (σ : St) (Q : St → Prop) : Prop := w_X1_isLive x1 σ (fun r_2 σ_1 => (r_2 = 0 → (Q σ_1)) ∧ (¬ r_2 = 0 → (vp_in x1 20 ∧ (∀ σ_4 : St, σ_4 = wr σ_1 25 x1.toNatClampNeg (1 &&& 1) → (∀ σ_5 : St, σ_5 = wr σ_4 5 7 ((σ_4.1 5 7) - 1) → (Q σ_5))))))
set_option maxHeartbeats 4000000 in
set_option maxRecDepth 100000 in
theorem b_X1_strike (C : CX p R s m args meth c cX1_strike 2 RX1 2 42 D cs) (hE : RV p l e R s m args below meth c cX1_strike D cs LC q Q E) : ∀ (x1 : Int32) (σ : St) (H : Heap) (locs : List Loc) (ls : Array Slot), OK D cs LC q s σ H locs → lv_has ls 2 [(0, .ref (q 5)), (1, .int x1)] → w_X1_strike x1 σ Q → W p l e R s m args below meth c H locs 0 0 E (F0 m 0 ls []) := by
  have hx := C.1
  have hb := C.2.1
  intro x1 σ H locs ls O hl hf
  unfold w_X1_strike at hf
  refine lv_aload_n hx hb dX1_strike_0 rfl (lv_at hl 0 rfl) ?_
  refine lv_iload_n hx hb dX1_strike_1 rfl (lv_at hl 1 rfl) ?_
  refine r_callI C O hl (c_X1_isLive l x1) mX1_46 (by decide) rfl rfl rfl rfl (Nat.le_of_ble_eq_true rfl) hf dX1_strike_2 (fun r_2 σ_1 H locs O hf => ?_)
  refine lv_if_eq (tgt := 25) hx hb dX1_strike_5 (by decide) (fun c_3 => ?_) (fun c_3 => ?_)
  · have hf := hf.1 c_3
    exact hE _ _ _ _ _ O hf dX1_strike_25
  · have hf := hf.2 c_3
    refine lv_aload_n hx hb dX1_strike_8 rfl (lv_at hl 0 rfl) ?_
    refine r_get C O (k := 5) (j := 4) (v := .ref (q 25)) fX1_24 rfl rfl rfl dX1_strike_9 ?_
    refine lv_iload_n hx hb dX1_strike_12 rfl (lv_at hl 1 rfl) ?_
    refine lv_iconst (v := 1) hx hb dX1_strike_13 (by decide) ?_
    refine r_zast C O (k := 25) rfl hf.1 dX1_strike_14 (fun H locs σ_4 eσ_4 O => ?_)
    have hf := hf.2 σ_4 eσ_4
    refine lv_aload_n hx hb dX1_strike_15 rfl (lv_at hl 0 rfl) ?_
    refine lv_dup hx hb dX1_strike_16 rfl ?_
    refine r_get C O (k := 5) (j := 7) (v := .int (σ_4.1 5 7)) fX1_35 rfl rfl rfl dX1_strike_17 ?_
    refine lv_iconst (v := 1) hx hb dX1_strike_20 (by decide) ?_
    refine lv_isub hx hb dX1_strike_21 ?_
    refine r_puti C O (k := 5) pX1_35 rfl rfl dX1_strike_22 (fun H locs σ_5 eσ_5 O => ?_)
    have hf := hf σ_5 eσ_5
    exact hE _ _ _ _ _ O hf dX1_strike_25
theorem c_X1_strike (l : Launch) (x1 : Int32) : MetV l yX1_strike cX1_strike 2 2 42 LC 5 (fun q => [.int x1]) (w_X1_strike x1) := mk_V (own := RX1) (by decide) rfl (fun q => Nat.le_of_ble_eq_true rfl) (fun C hE O hl hf => b_X1_strike C hE x1 _ _ _ _ O hl hf)
end
section
variable {p : Program} {l : Launch} {e : Env} {R : Room} {s : State} {m : MethodId} {args : Array Value} {below : List Frame} {meth : Method} {c : Code} {E : State → Prop}
variable {D : va_G} {cs : Nat → ClassId} {q : Nat → Nat}
variable {Q : Int32 → St → Prop}
def w_X1_size (σ : St) (Q : Int32 → St → Prop) : Prop := Q (σ.1 5 6) σ
set_option maxHeartbeats 4000000 in
set_option maxRecDepth 100000 in
theorem b_X1_size (C : CX p R s m args meth c cX1_size 1 RX1 0 0 D cs) (hE : RI p l e R s m args below meth c cX1_size D cs LC q .int Q E) : ∀ (σ : St) (H : Heap) (locs : List Loc) (ls : Array Slot), OK D cs LC q s σ H locs → lv_has ls 1 [(0, .ref (q 5))] → w_X1_size  σ Q → W p l e R s m args below meth c H locs 0 0 E (F0 m 0 ls []) := by
  have hx := C.1
  have hb := C.2.1
  intro  σ H locs ls O hl hf
  unfold w_X1_size at hf
  refine lv_aload_n hx hb dX1_size_0 rfl (lv_at hl 0 rfl) ?_
  refine r_get C O (k := 5) (j := 6) (v := .int (σ.1 5 6)) fX1_31 rfl rfl rfl dX1_size_1 ?_
  exact hE _ _ _ _ _ _ (vp_nar_int _) O hf dX1_size_4
theorem c_X1_size (l : Launch) : MetI l yX1_size cX1_size 1 .int 0 0 LC 5 (fun q => []) (w_X1_size ) := mk_I (own := RX1) (by decide) rfl (fun q => Nat.le_of_ble_eq_true rfl) (fun C hE O hl hf => b_X1_size C hE _ _ _ _ O hl hf)
end
section
variable {p : Program} {l : Launch} {e : Env} {R : Room} {s : State} {m : MethodId} {args : Array Value} {below : List Frame} {meth : Method} {c : Code} {E : State → Prop}
variable {D : va_G} {cs : Nat → ClassId} {q : Nat → Nat}
variable {Q : Int32 → St → Prop}
def w_X1_live (σ : St) (Q : Int32 → St → Prop) : Prop := Q (σ.1 5 7) σ
set_option maxHeartbeats 4000000 in
set_option maxRecDepth 100000 in
theorem b_X1_live (C : CX p R s m args meth c cX1_live 1 RX1 0 0 D cs) (hE : RI p l e R s m args below meth c cX1_live D cs LC q .int Q E) : ∀ (σ : St) (H : Heap) (locs : List Loc) (ls : Array Slot), OK D cs LC q s σ H locs → lv_has ls 1 [(0, .ref (q 5))] → w_X1_live  σ Q → W p l e R s m args below meth c H locs 0 0 E (F0 m 0 ls []) := by
  have hx := C.1
  have hb := C.2.1
  intro  σ H locs ls O hl hf
  unfold w_X1_live at hf
  refine lv_aload_n hx hb dX1_live_0 rfl (lv_at hl 0 rfl) ?_
  refine r_get C O (k := 5) (j := 7) (v := .int (σ.1 5 7)) fX1_35 rfl rfl rfl dX1_live_1 ?_
  exact hE _ _ _ _ _ _ (vp_nar_int _) O hf dX1_live_4
theorem c_X1_live (l : Launch) : MetI l yX1_live cX1_live 1 .int 0 0 LC 5 (fun q => []) (w_X1_live ) := mk_I (own := RX1) (by decide) rfl (fun q => Nat.le_of_ble_eq_true rfl) (fun C hE O hl hf => b_X1_live C hE _ _ _ _ O hl hf)
end
section
variable {p : Program} {l : Launch} {e : Env} {R : Room} {s : State} {m : MethodId} {args : Array Value} {below : List Frame} {meth : Method} {c : Code} {E : State → Prop}
variable {D : va_G} {cs : Nat → ClassId} {q : Nat → Nat}
variable {Q : Int32 → St → Prop}
def w_X1_inOrder (x1 : Int32) (σ : St) (Q : Int32 → St → Prop) : Prop := (x1 < 0 → (Q ((-1)) σ)) ∧ (¬ x1 < 0 → (((σ.1 5 6) ≤ x1 → (Q ((-1)) σ)) ∧ (¬ (σ.1 5 6) ≤ x1 → (vp_in x1 20 ∧ (Q (σ.1 26 x1.toNatClampNeg) σ)))))
set_option maxHeartbeats 4000000 in
set_option maxRecDepth 100000 in
theorem b_X1_inOrder (C : CX p R s m args meth c cX1_inOrder 2 RX1 0 0 D cs) (hE : RI p l e R s m args below meth c cX1_inOrder D cs LC q .int Q E) : ∀ (x1 : Int32) (σ : St) (H : Heap) (locs : List Loc) (ls : Array Slot), OK D cs LC q s σ H locs → lv_has ls 2 [(0, .ref (q 5)), (1, .int x1)] → w_X1_inOrder x1 σ Q → W p l e R s m args below meth c H locs 0 0 E (F0 m 0 ls []) := by
  have hx := C.1
  have hb := C.2.1
  intro x1 σ H locs ls O hl hf
  unfold w_X1_inOrder at hf
  refine lv_iload_n hx hb dX1_inOrder_0 rfl (lv_at hl 1 rfl) ?_
  refine lv_if_lt (tgt := 21) hx hb dX1_inOrder_1 (by decide) (fun c_1 => ?_) (fun c_1 => ?_)
  · have hf := hf.1 c_1
    refine lv_iconst (v := (-1)) hx hb dX1_inOrder_21 (by decide) ?_
    exact hE _ _ _ _ _ _ (vp_nar_int _) O hf dX1_inOrder_22
  · have hf := hf.2 c_1
    refine lv_iload_n hx hb dX1_inOrder_4 rfl (lv_at hl 1 rfl) ?_
    refine lv_aload_n hx hb dX1_inOrder_5 rfl (lv_at hl 0 rfl) ?_
    refine r_get C O (k := 5) (j := 6) (v := .int (σ.1 5 6)) fX1_31 rfl rfl rfl dX1_inOrder_6 ?_
    refine lv_icmp_ge (tgt := 21) hx hb dX1_inOrder_9 (by decide) (fun c_2 => ?_) (fun c_2 => ?_)
    · have hf := hf.1 c_2
      refine lv_iconst (v := (-1)) hx hb dX1_inOrder_21 (by decide) ?_
      exact hE _ _ _ _ _ _ (vp_nar_int _) O hf dX1_inOrder_22
    · have hf := hf.2 c_2
      refine lv_aload_n hx hb dX1_inOrder_12 rfl (lv_at hl 0 rfl) ?_
      refine r_get C O (k := 5) (j := 5) (v := .ref (q 26)) fX1_28 rfl rfl rfl dX1_inOrder_13 ?_
      refine lv_iload_n hx hb dX1_inOrder_16 rfl (lv_at hl 1 rfl) ?_
      refine r_iald C O (k := 26) rfl hf.1 dX1_inOrder_17 ?_
      have hf := hf.2
      refine lv_goto (tgt := 22) hx hb dX1_inOrder_18 (by decide) ?_
      exact hE _ _ _ _ _ _ (vp_nar_int _) O hf dX1_inOrder_22
theorem c_X1_inOrder (l : Launch) (x1 : Int32) : MetI l yX1_inOrder cX1_inOrder 2 .int 0 0 LC 5 (fun q => [.int x1]) (w_X1_inOrder x1) := mk_I (own := RX1) (by decide) rfl (fun q => Nat.le_of_ble_eq_true rfl) (fun C hE O hl hf => b_X1_inOrder C hE x1 _ _ _ _ O hl hf)
end
section
variable {p : Program} {l : Launch} {e : Env} {R : Room} {s : State} {m : MethodId} {args : Array Value} {below : List Frame} {meth : Method} {c : Code} {E : State → Prop}
variable {D : va_G} {cs : Nat → ClassId} {q : Nat → Nat}
variable {Q : Int32 → St → Prop}
def w_X1_anyBetween_62 (Q : Int32 → St → Prop) (K2 : Int32 → Int32 → Int32 → St → Prop) (x1 : Int32) (x2 : Int32) (x3 : Int32) (x4 : Int32) (s0 : Int32) (σ : St) : Prop := vp_in x3 20 ∧ ((¬ (σ.1 25 x3.toNatClampNeg) = 0 → (K2 x1 x2 (x3 + 1) σ)) ∧ ((σ.1 25 x3.toNatClampNeg) = 0 → ((¬ x4 = 0 → (Q 1 σ)) ∧ (x4 = 0 → ((s0 = 0 → (K2 x1 x2 (x3 + 1) σ)) ∧ (¬ s0 = 0 → (Q 1 σ)))))))
set_option maxHeartbeats 4000000 in
set_option maxRecDepth 100000 in
theorem b_X1_anyBetween_62 (C : CX p R s m args meth c cX1_anyBetween 6 RX1 0 0 D cs) (hE : RI p l e R s m args below meth c cX1_anyBetween D cs LC q .boolean Q E) {K2 : Int32 → Int32 → Int32 → St → Prop} (hK2 : ∀ (x1 : Int32) (x2 : Int32) (x3 : Int32) (σ : St) (H : Heap) (locs : List Loc) (ls : Array Slot), OK D cs LC q s σ H locs → lv_has ls 6 [(0, .ref (q 5)), (1, .int x1), (2, .int x2), (3, .int x3)] → K2 x1 x2 x3 σ → W p l e R s m args below meth c H locs 0 0 E (F0 m 2 ls [])) : ∀ (x1 : Int32) (x2 : Int32) (x3 : Int32) (x4 : Int32) (s0 : Int32) (σ : St) (H : Heap) (locs : List Loc) (ls : Array Slot), OK D cs LC q s σ H locs → lv_has ls 6 [(0, .ref (q 5)), (1, .int x1), (2, .int x2), (3, .int x3), (4, .int x4)] → w_X1_anyBetween_62 Q K2 x1 x2 x3 x4 s0 σ → W p l e R s m args below meth c H locs 0 0 E (F0 m 62 ls [.int s0]) := by
  have hx := C.1
  have hb := C.2.1
  intro x1 x2 x3 x4 s0 σ H locs ls O hl hf
  unfold w_X1_anyBetween_62 at hf
  refine lv_istore (lv' := [(5, .int s0), (0, .ref (q 5)), (1, .int x1), (2, .int x2), (3, .int x3), (4, .int x4)]) hx hb dX1_anyBetween_62 hl (by decide) rfl (fun ls hl => ?_)
  refine lv_aload_n hx hb dX1_anyBetween_64 rfl (lv_at hl 1 rfl) ?_
  refine r_get C O (k := 5) (j := 4) (v := .ref (q 25)) fX1_24 rfl rfl rfl dX1_anyBetween_65 ?_
  refine lv_iload_n hx hb dX1_anyBetween_68 rfl (lv_at hl 4 rfl) ?_
  refine r_zald C O (k := 25) rfl hf.1 dX1_anyBetween_69 ?_
  have hf := hf.2
  refine lv_if_ne (tgt := 85) hx hb dX1_anyBetween_70 (by decide) (fun c_1 => ?_) (fun c_1 => ?_)
  · have hf := hf.1 c_1
    refine lv_iinc (v := x3 + 1) (lv' := [(3, .int (x3 + 1)), (5, .int s0), (0, .ref (q 5)), (1, .int x1), (2, .int x2), (4, .int x4)]) hx hb dX1_anyBetween_85 hl (k := 4) rfl rfl (by decide) rfl (fun ls hl => ?_)
    refine lv_goto (tgt := 2) hx hb dX1_anyBetween_88 (by decide) ?_
    exact hK2 x1 x2 (x3 + 1) σ _ _ ls O (lv_sub hl [2, 3, 4, 0] rfl) hf
  · have hf := hf.2 c_1
    refine lv_iload hx hb dX1_anyBetween_73 (lv_at hl 5 rfl) ?_
    refine lv_if_ne (tgt := 83) hx hb dX1_anyBetween_75 (by decide) (fun c_2 => ?_) (fun c_2 => ?_)
    · have hf := hf.1 c_2
      refine lv_iconst (v := 1) hx hb dX1_anyBetween_83 (by decide) ?_
      exact hE _ _ _ _ _ _ rfl O hf dX1_anyBetween_84
    · have hf := hf.2 c_2
      refine lv_iload hx hb dX1_anyBetween_78 (lv_at hl 0 rfl) ?_
      refine lv_if_eq (tgt := 85) hx hb dX1_anyBetween_80 (by decide) (fun c_3 => ?_) (fun c_3 => ?_)
      · have hf := hf.1 c_3
        refine lv_iinc (v := x3 + 1) (lv' := [(3, .int (x3 + 1)), (5, .int s0), (0, .ref (q 5)), (1, .int x1), (2, .int x2), (4, .int x4)]) hx hb dX1_anyBetween_85 hl (k := 4) rfl rfl (by decide) rfl (fun ls hl => ?_)
        refine lv_goto (tgt := 2) hx hb dX1_anyBetween_88 (by decide) ?_
        exact hK2 x1 x2 (x3 + 1) σ _ _ ls O (lv_sub hl [2, 3, 4, 0] rfl) hf
      · have hf := hf.2 c_3
        refine lv_iconst (v := 1) hx hb dX1_anyBetween_83 (by decide) ?_
        exact hE _ _ _ _ _ _ rfl O hf dX1_anyBetween_84
def w_X1_anyBetween_61 (Q : Int32 → St → Prop) (K2 : Int32 → Int32 → Int32 → St → Prop) (x1 : Int32) (x2 : Int32) (x3 : Int32) (x4 : Int32) (σ : St) : Prop := w_X1_anyBetween_62 Q K2 x1 x2 x3 x4 0 σ
set_option maxHeartbeats 4000000 in
set_option maxRecDepth 100000 in
theorem b_X1_anyBetween_61 (C : CX p R s m args meth c cX1_anyBetween 6 RX1 0 0 D cs) (hE : RI p l e R s m args below meth c cX1_anyBetween D cs LC q .boolean Q E) {K2 : Int32 → Int32 → Int32 → St → Prop} (hK2 : ∀ (x1 : Int32) (x2 : Int32) (x3 : Int32) (σ : St) (H : Heap) (locs : List Loc) (ls : Array Slot), OK D cs LC q s σ H locs → lv_has ls 6 [(0, .ref (q 5)), (1, .int x1), (2, .int x2), (3, .int x3)] → K2 x1 x2 x3 σ → W p l e R s m args below meth c H locs 0 0 E (F0 m 2 ls [])) : ∀ (x1 : Int32) (x2 : Int32) (x3 : Int32) (x4 : Int32) (σ : St) (H : Heap) (locs : List Loc) (ls : Array Slot), OK D cs LC q s σ H locs → lv_has ls 6 [(0, .ref (q 5)), (1, .int x1), (2, .int x2), (3, .int x3), (4, .int x4)] → w_X1_anyBetween_61 Q K2 x1 x2 x3 x4 σ → W p l e R s m args below meth c H locs 0 0 E (F0 m 61 ls []) := by
  have hx := C.1
  have hb := C.2.1
  intro x1 x2 x3 x4 σ H locs ls O hl hf
  unfold w_X1_anyBetween_61 at hf
  refine lv_iconst (v := 0) hx hb dX1_anyBetween_61 (by decide) ?_
  exact b_X1_anyBetween_62 C hE hK2 x1 x2 x3 x4 0 σ _ _ ls O (lv_sub hl [0, 1, 2, 3, 4] rfl) hf
def w_X1_anyBetween_35 (Q : Int32 → St → Prop) (K2 : Int32 → Int32 → Int32 → St → Prop) (x1 : Int32) (x2 : Int32) (x3 : Int32) (s0 : Int32) (σ : St) : Prop := vp_in x3 20 ∧ ((¬ (σ.1 21 x3.toNatClampNeg) = x2 → (w_X1_anyBetween_61 Q K2 x1 x2 x3 s0 σ)) ∧ ((σ.1 21 x3.toNatClampNeg) = x2 → (vp_in x3 20 ∧ ((¬ (σ.1 22 x3.toNatClampNeg) = x1 → (w_X1_anyBetween_61 Q K2 x1 x2 x3 s0 σ)) ∧ ((σ.1 22 x3.toNatClampNeg) = x1 → (w_X1_anyBetween_62 Q K2 x1 x2 x3 s0 1 σ))))))
set_option maxHeartbeats 4000000 in
set_option maxRecDepth 100000 in
theorem b_X1_anyBetween_35 (C : CX p R s m args meth c cX1_anyBetween 6 RX1 0 0 D cs) (hE : RI p l e R s m args below meth c cX1_anyBetween D cs LC q .boolean Q E) {K2 : Int32 → Int32 → Int32 → St → Prop} (hK2 : ∀ (x1 : Int32) (x2 : Int32) (x3 : Int32) (σ : St) (H : Heap) (locs : List Loc) (ls : Array Slot), OK D cs LC q s σ H locs → lv_has ls 6 [(0, .ref (q 5)), (1, .int x1), (2, .int x2), (3, .int x3)] → K2 x1 x2 x3 σ → W p l e R s m args below meth c H locs 0 0 E (F0 m 2 ls [])) : ∀ (x1 : Int32) (x2 : Int32) (x3 : Int32) (s0 : Int32) (σ : St) (H : Heap) (locs : List Loc) (ls : Array Slot), OK D cs LC q s σ H locs → lv_has ls 6 [(0, .ref (q 5)), (1, .int x1), (2, .int x2), (3, .int x3)] → w_X1_anyBetween_35 Q K2 x1 x2 x3 s0 σ → W p l e R s m args below meth c H locs 0 0 E (F0 m 35 ls [.int s0]) := by
  have hx := C.1
  have hb := C.2.1
  intro x1 x2 x3 s0 σ H locs ls O hl hf
  unfold w_X1_anyBetween_35 at hf
  refine lv_istore (lv' := [(4, .int s0), (0, .ref (q 5)), (1, .int x1), (2, .int x2), (3, .int x3)]) hx hb dX1_anyBetween_35 hl (by decide) rfl (fun ls hl => ?_)
  refine lv_aload_n hx hb dX1_anyBetween_37 rfl (lv_at hl 1 rfl) ?_
  refine r_get C O (k := 5) (j := 0) (v := .ref (q 21)) fX1_11 rfl rfl rfl dX1_anyBetween_38 ?_
  refine lv_iload_n hx hb dX1_anyBetween_41 rfl (lv_at hl 4 rfl) ?_
  refine r_iald C O (k := 21) rfl hf.1 dX1_anyBetween_42 ?_
  have hf := hf.2
  refine lv_iload_n hx hb dX1_anyBetween_43 rfl (lv_at hl 3 rfl) ?_
  refine lv_icmp_ne (tgt := 61) hx hb dX1_anyBetween_44 (by decide) (fun c_1 => ?_) (fun c_1 => ?_)
  · have hf := hf.1 c_1
    exact b_X1_anyBetween_61 C hE hK2 x1 x2 x3 s0 σ _ _ ls O (lv_sub hl [1, 2, 3, 4, 0] rfl) hf
  · have hf := hf.2 c_1
    refine lv_aload_n hx hb dX1_anyBetween_47 rfl (lv_at hl 1 rfl) ?_
    refine r_get C O (k := 5) (j := 1) (v := .ref (q 22)) fX1_15 rfl rfl rfl dX1_anyBetween_48 ?_
    refine lv_iload_n hx hb dX1_anyBetween_51 rfl (lv_at hl 4 rfl) ?_
    refine r_iald C O (k := 22) rfl hf.1 dX1_anyBetween_52 ?_
    have hf := hf.2
    refine lv_iload_n hx hb dX1_anyBetween_53 rfl (lv_at hl 2 rfl) ?_
    refine lv_icmp_ne (tgt := 61) hx hb dX1_anyBetween_54 (by decide) (fun c_2 => ?_) (fun c_2 => ?_)
    · have hf := hf.1 c_2
      exact b_X1_anyBetween_61 C hE hK2 x1 x2 x3 s0 σ _ _ ls O (lv_sub hl [1, 2, 3, 4, 0] rfl) hf
    · have hf := hf.2 c_2
      refine lv_iconst (v := 1) hx hb dX1_anyBetween_57 (by decide) ?_
      refine lv_goto (tgt := 62) hx hb dX1_anyBetween_58 (by decide) ?_
      exact b_X1_anyBetween_62 C hE hK2 x1 x2 x3 s0 1 σ _ _ ls O (lv_sub hl [1, 2, 3, 4, 0] rfl) hf
def w_X1_anyBetween_34 (Q : Int32 → St → Prop) (K2 : Int32 → Int32 → Int32 → St → Prop) (x1 : Int32) (x2 : Int32) (x3 : Int32) (σ : St) : Prop := w_X1_anyBetween_35 Q K2 x1 x2 x3 0 σ
set_option maxHeartbeats 4000000 in
set_option maxRecDepth 100000 in
theorem b_X1_anyBetween_34 (C : CX p R s m args meth c cX1_anyBetween 6 RX1 0 0 D cs) (hE : RI p l e R s m args below meth c cX1_anyBetween D cs LC q .boolean Q E) {K2 : Int32 → Int32 → Int32 → St → Prop} (hK2 : ∀ (x1 : Int32) (x2 : Int32) (x3 : Int32) (σ : St) (H : Heap) (locs : List Loc) (ls : Array Slot), OK D cs LC q s σ H locs → lv_has ls 6 [(0, .ref (q 5)), (1, .int x1), (2, .int x2), (3, .int x3)] → K2 x1 x2 x3 σ → W p l e R s m args below meth c H locs 0 0 E (F0 m 2 ls [])) : ∀ (x1 : Int32) (x2 : Int32) (x3 : Int32) (σ : St) (H : Heap) (locs : List Loc) (ls : Array Slot), OK D cs LC q s σ H locs → lv_has ls 6 [(0, .ref (q 5)), (1, .int x1), (2, .int x2), (3, .int x3)] → w_X1_anyBetween_34 Q K2 x1 x2 x3 σ → W p l e R s m args below meth c H locs 0 0 E (F0 m 34 ls []) := by
  have hx := C.1
  have hb := C.2.1
  intro x1 x2 x3 σ H locs ls O hl hf
  unfold w_X1_anyBetween_34 at hf
  refine lv_iconst (v := 0) hx hb dX1_anyBetween_34 (by decide) ?_
  exact b_X1_anyBetween_35 C hE hK2 x1 x2 x3 0 σ _ _ ls O (lv_sub hl [0, 1, 2, 3] rfl) hf
def w_X1_anyBetween_2 (Q : Int32 → St → Prop) : Nat → Int32 → Int32 → Int32 → St → Prop
  | 0, _, _, _, _ => False
  | n + 1, x1, x2, x3, σ => ((σ.1 5 6) ≤ x3 → (Q 0 σ)) ∧ (¬ (σ.1 5 6) ≤ x3 → (vp_in x3 20 ∧ ((¬ (σ.1 21 x3.toNatClampNeg) = x1 → (w_X1_anyBetween_34 Q (fun x1 x2 x3 σ => w_X1_anyBetween_2 Q n x1 x2 x3 σ) x1 x2 x3 σ)) ∧ ((σ.1 21 x3.toNatClampNeg) = x1 → (vp_in x3 20 ∧ ((¬ (σ.1 22 x3.toNatClampNeg) = x2 → (w_X1_anyBetween_34 Q (fun x1 x2 x3 σ => w_X1_anyBetween_2 Q n x1 x2 x3 σ) x1 x2 x3 σ)) ∧ ((σ.1 22 x3.toNatClampNeg) = x2 → (w_X1_anyBetween_35 Q (fun x1 x2 x3 σ => w_X1_anyBetween_2 Q n x1 x2 x3 σ) x1 x2 x3 1 σ))))))))
set_option maxHeartbeats 4000000 in
set_option maxRecDepth 100000 in
theorem b_X1_anyBetween_2 (C : CX p R s m args meth c cX1_anyBetween 6 RX1 0 0 D cs) (hE : RI p l e R s m args below meth c cX1_anyBetween D cs LC q .boolean Q E) : ∀ n : Nat, ∀ (x1 : Int32) (x2 : Int32) (x3 : Int32) (σ : St) (H : Heap) (locs : List Loc) (ls : Array Slot), OK D cs LC q s σ H locs → lv_has ls 6 [(0, .ref (q 5)), (1, .int x1), (2, .int x2), (3, .int x3)] → w_X1_anyBetween_2 Q n x1 x2 x3 σ → W p l e R s m args below meth c H locs 0 0 E (F0 m 2 ls []) := by
  have hx := C.1
  have hb := C.2.1
  intro n
  induction n with
  | zero => intro x1 x2 x3 σ H locs ls O hl hf; exact hf.elim
  | succ n ih =>
    intro x1 x2 x3 σ H locs ls O hl hf
    unfold w_X1_anyBetween_2 at hf
    refine lv_iload_n hx hb dX1_anyBetween_2 rfl (lv_at hl 3 rfl) ?_
    refine lv_aload_n hx hb dX1_anyBetween_3 rfl (lv_at hl 0 rfl) ?_
    refine r_get C O (k := 5) (j := 6) (v := .int (σ.1 5 6)) fX1_31 rfl rfl rfl dX1_anyBetween_4 ?_
    refine lv_icmp_ge (tgt := 91) hx hb dX1_anyBetween_7 (by decide) (fun c_1 => ?_) (fun c_1 => ?_)
    · have hf := hf.1 c_1
      refine lv_iconst (v := 0) hx hb dX1_anyBetween_91 (by decide) ?_
      exact hE _ _ _ _ _ _ rfl O hf dX1_anyBetween_92
    · have hf := hf.2 c_1
      refine lv_aload_n hx hb dX1_anyBetween_10 rfl (lv_at hl 0 rfl) ?_
      refine r_get C O (k := 5) (j := 0) (v := .ref (q 21)) fX1_11 rfl rfl rfl dX1_anyBetween_11 ?_
      refine lv_iload_n hx hb dX1_anyBetween_14 rfl (lv_at hl 3 rfl) ?_
      refine r_iald C O (k := 21) rfl hf.1 dX1_anyBetween_15 ?_
      have hf := hf.2
      refine lv_iload_n hx hb dX1_anyBetween_16 rfl (lv_at hl 1 rfl) ?_
      refine lv_icmp_ne (tgt := 34) hx hb dX1_anyBetween_17 (by decide) (fun c_2 => ?_) (fun c_2 => ?_)
      · have hf := hf.1 c_2
        exact b_X1_anyBetween_34 C hE ih x1 x2 x3 σ _ _ ls O (lv_sub hl [0, 1, 2, 3] rfl) hf
      · have hf := hf.2 c_2
        refine lv_aload_n hx hb dX1_anyBetween_20 rfl (lv_at hl 0 rfl) ?_
        refine r_get C O (k := 5) (j := 1) (v := .ref (q 22)) fX1_15 rfl rfl rfl dX1_anyBetween_21 ?_
        refine lv_iload_n hx hb dX1_anyBetween_24 rfl (lv_at hl 3 rfl) ?_
        refine r_iald C O (k := 22) rfl hf.1 dX1_anyBetween_25 ?_
        have hf := hf.2
        refine lv_iload_n hx hb dX1_anyBetween_26 rfl (lv_at hl 2 rfl) ?_
        refine lv_icmp_ne (tgt := 34) hx hb dX1_anyBetween_27 (by decide) (fun c_3 => ?_) (fun c_3 => ?_)
        · have hf := hf.1 c_3
          exact b_X1_anyBetween_34 C hE ih x1 x2 x3 σ _ _ ls O (lv_sub hl [0, 1, 2, 3] rfl) hf
        · have hf := hf.2 c_3
          refine lv_iconst (v := 1) hx hb dX1_anyBetween_30 (by decide) ?_
          refine lv_goto (tgt := 35) hx hb dX1_anyBetween_31 (by decide) ?_
          exact b_X1_anyBetween_35 C hE ih x1 x2 x3 1 σ _ _ ls O (lv_sub hl [0, 1, 2, 3] rfl) hf
def w_X1_anyBetween (x1 : Int32) (x2 : Int32) (σ : St) (Q : Int32 → St → Prop) : Prop := ∃ n : Nat, w_X1_anyBetween_2 Q n x1 x2 0 σ
set_option maxHeartbeats 4000000 in
set_option maxRecDepth 100000 in
theorem b_X1_anyBetween (C : CX p R s m args meth c cX1_anyBetween 6 RX1 0 0 D cs) (hE : RI p l e R s m args below meth c cX1_anyBetween D cs LC q .boolean Q E) : ∀ (x1 : Int32) (x2 : Int32) (σ : St) (H : Heap) (locs : List Loc) (ls : Array Slot), OK D cs LC q s σ H locs → lv_has ls 6 [(0, .ref (q 5)), (1, .int x1), (2, .int x2)] → w_X1_anyBetween x1 x2 σ Q → W p l e R s m args below meth c H locs 0 0 E (F0 m 0 ls []) := by
  have hx := C.1
  have hb := C.2.1
  intro x1 x2 σ H locs ls O hl hf
  unfold w_X1_anyBetween at hf
  refine lv_iconst (v := 0) hx hb dX1_anyBetween_0 (by decide) ?_
  refine lv_istore_n (lv' := [(3, .int 0), (0, .ref (q 5)), (1, .int x1), (2, .int x2)]) hx hb dX1_anyBetween_1 rfl hl (by decide) rfl (fun ls hl => ?_)
  obtain ⟨nn, hf⟩ := hf
  exact b_X1_anyBetween_2 C hE nn x1 x2 0 σ _ _ ls O (lv_sub hl [1, 2, 3, 0] rfl) hf
theorem c_X1_anyBetween (l : Launch) (x1 : Int32) (x2 : Int32) : MetI l yX1_anyBetween cX1_anyBetween 6 .boolean 0 0 LC 5 (fun q => [.int x1, .int x2]) (w_X1_anyBetween x1 x2) := mk_I (own := RX1) (by decide) rfl (fun q => Nat.le_of_ble_eq_true rfl) (fun C hE O hl hf => b_X1_anyBetween C hE x1 x2 _ _ _ _ O hl hf)
end
section
variable {p : Program} {l : Launch} {e : Env} {R : Room} {s : State} {m : MethodId} {args : Array Value} {below : List Frame} {meth : Method} {c : Code} {E : State → Prop}
variable {D : va_G} {cs : Nat → ClassId} {q : Nat → Nat}
variable {Q : Int32 → St → Prop}
def w_X8_at (x1 : Int32) (x2 : Int32) (σ : St) (Q : Int32 → St → Prop) : Prop := (x1 < 0 → (Q ((-1)) σ)) ∧ (¬ x1 < 0 → ((x2 ≤ x1 → (Q ((-1)) σ)) ∧ (¬ x2 ≤ x1 → (((σ.1 1 1) ≤ x1 → (Q ((-1)) σ)) ∧ (¬ (σ.1 1 1) ≤ x1 → (vp_in x1 40 ∧ (Q (σ.1 11 x1.toNatClampNeg) σ)))))))
set_option maxHeartbeats 4000000 in
set_option maxRecDepth 100000 in
theorem b_X8_at (C : CX p R s m args meth c cX8_at 3 RX8 0 0 D cs) (hE : RI p l e R s m args below meth c cX8_at D cs LC q .int Q E) : ∀ (x1 : Int32) (x2 : Int32) (σ : St) (H : Heap) (locs : List Loc) (ls : Array Slot), OK D cs LC q s σ H locs → lv_has ls 3 [(0, .ref (q 1)), (1, .int x1), (2, .int x2)] → w_X8_at x1 x2 σ Q → W p l e R s m args below meth c H locs 0 0 E (F0 m 0 ls []) := by
  have hx := C.1
  have hb := C.2.1
  intro x1 x2 σ H locs ls O hl hf
  unfold w_X8_at at hf
  refine lv_iload_n hx hb dX8_at_0 rfl (lv_at hl 1 rfl) ?_
  refine lv_if_lt (tgt := 26) hx hb dX8_at_1 (by decide) (fun c_1 => ?_) (fun c_1 => ?_)
  · have hf := hf.1 c_1
    refine lv_iconst (v := (-1)) hx hb dX8_at_26 (by decide) ?_
    exact hE _ _ _ _ _ _ (vp_nar_int _) O hf dX8_at_27
  · have hf := hf.2 c_1
    refine lv_iload_n hx hb dX8_at_4 rfl (lv_at hl 1 rfl) ?_
    refine lv_iload_n hx hb dX8_at_5 rfl (lv_at hl 2 rfl) ?_
    refine lv_icmp_ge (tgt := 26) hx hb dX8_at_6 (by decide) (fun c_2 => ?_) (fun c_2 => ?_)
    · have hf := hf.1 c_2
      refine lv_iconst (v := (-1)) hx hb dX8_at_26 (by decide) ?_
      exact hE _ _ _ _ _ _ (vp_nar_int _) O hf dX8_at_27
    · have hf := hf.2 c_2
      refine lv_iload_n hx hb dX8_at_9 rfl (lv_at hl 1 rfl) ?_
      refine lv_aload_n hx hb dX8_at_10 rfl (lv_at hl 0 rfl) ?_
      refine r_get C O (k := 1) (j := 1) (v := .int (σ.1 1 1)) fX8_13 rfl rfl rfl dX8_at_11 ?_
      refine lv_icmp_ge (tgt := 26) hx hb dX8_at_14 (by decide) (fun c_3 => ?_) (fun c_3 => ?_)
      · have hf := hf.1 c_3
        refine lv_iconst (v := (-1)) hx hb dX8_at_26 (by decide) ?_
        exact hE _ _ _ _ _ _ (vp_nar_int _) O hf dX8_at_27
      · have hf := hf.2 c_3
        refine lv_aload_n hx hb dX8_at_17 rfl (lv_at hl 0 rfl) ?_
        refine r_get C O (k := 1) (j := 0) (v := .ref (q 11)) fX8_9 rfl rfl rfl dX8_at_18 ?_
        refine lv_iload_n hx hb dX8_at_21 rfl (lv_at hl 1 rfl) ?_
        refine r_iald C O (k := 11) rfl hf.1 dX8_at_22 ?_
        have hf := hf.2
        refine lv_goto (tgt := 27) hx hb dX8_at_23 (by decide) ?_
        exact hE _ _ _ _ _ _ (vp_nar_int _) O hf dX8_at_27
theorem c_X8_at (l : Launch) (x1 : Int32) (x2 : Int32) : MetI l yX8_at cX8_at 3 .int 0 0 LC 1 (fun q => [.int x1, .int x2]) (w_X8_at x1 x2) := mk_I (own := RX8) (by decide) rfl (fun q => Nat.le_of_ble_eq_true rfl) (fun C hE O hl hf => b_X8_at C hE x1 x2 _ _ _ _ O hl hf)
end
section
variable {p : Program} {l : Launch} {e : Env} {R : Room} {s : State} {m : MethodId} {args : Array Value} {below : List Frame} {meth : Method} {c : Code} {E : State → Prop}
variable {D : va_G} {cs : Nat → ClassId} {q : Nat → Nat}
variable {Q : Int32 → St → Prop}
def w_X4_add (x1 : Int32) (x2 : Int32) (x3 : Int32) (x4 : Int32) (σ : St) (Q : Int32 → St → Prop) : Prop := ((σ.1 4 4) < 4 → (vp_in (σ.1 4 4) 4 ∧ (∀ σ_2 : St, σ_2 = wr σ 17 (σ.1 4 4).toNatClampNeg x1 → (vp_in (σ_2.1 4 4) 4 ∧ (∀ σ_3 : St, σ_3 = wr σ_2 18 (σ_2.1 4 4).toNatClampNeg x2 → (vp_in (σ_3.1 4 4) 4 ∧ (∀ σ_4 : St, σ_4 = wr σ_3 19 (σ_3.1 4 4).toNatClampNeg x3 → (vp_in (σ_4.1 4 4) 4 ∧ (∀ σ_5 : St, σ_5 = wr σ_4 20 (σ_4.1 4 4).toNatClampNeg x4 → (∀ σ_6 : St, σ_6 = wr σ_5 4 4 ((σ_5.1 4 4) + 1) → (Q ((σ_6.1 4 4) - 1) σ_6))))))))))) ∧ (¬ (σ.1 4 4) < 4 → (Q ((-1)) σ))
set_option maxHeartbeats 4000000 in
set_option maxRecDepth 100000 in
theorem b_X4_add (C : CX p R s m args meth c cX4_add 5 RX4 0 0 D cs) (hE : RI p l e R s m args below meth c cX4_add D cs LC q .int Q E) : ∀ (x1 : Int32) (x2 : Int32) (x3 : Int32) (x4 : Int32) (σ : St) (H : Heap) (locs : List Loc) (ls : Array Slot), OK D cs LC q s σ H locs → lv_has ls 5 [(0, .ref (q 4)), (1, .int x1), (2, .int x2), (3, .int x3), (4, .int x4)] → w_X4_add x1 x2 x3 x4 σ Q → W p l e R s m args below meth c H locs 0 0 E (F0 m 0 ls []) := by
  have hx := C.1
  have hb := C.2.1
  intro x1 x2 x3 x4 σ H locs ls O hl hf
  unfold w_X4_add at hf
  refine lv_aload_n hx hb dX4_add_0 rfl (lv_at hl 0 rfl) ?_
  refine r_get C O (k := 4) (j := 4) (v := .int (σ.1 4 4)) fX4_24 rfl rfl rfl dX4_add_1 ?_
  refine lv_iconst (v := 4) hx hb dX4_add_4 (by decide) ?_
  refine lv_icmp_lt (tgt := 10) hx hb dX4_add_5 (by decide) (fun c_1 => ?_) (fun c_1 => ?_)
  · have hf := hf.1 c_1
    refine lv_aload_n hx hb dX4_add_10 rfl (lv_at hl 0 rfl) ?_
    refine r_get C O (k := 4) (j := 0) (v := .ref (q 17)) fX4_11 rfl rfl rfl dX4_add_11 ?_
    refine lv_aload_n hx hb dX4_add_14 rfl (lv_at hl 0 rfl) ?_
    refine r_get C O (k := 4) (j := 4) (v := .int (σ.1 4 4)) fX4_24 rfl rfl rfl dX4_add_15 ?_
    refine lv_iload_n hx hb dX4_add_18 rfl (lv_at hl 1 rfl) ?_
    refine r_iast C O (k := 17) rfl hf.1 dX4_add_19 (fun H locs σ_2 eσ_2 O => ?_)
    have hf := hf.2 σ_2 eσ_2
    refine lv_aload_n hx hb dX4_add_20 rfl (lv_at hl 0 rfl) ?_
    refine r_get C O (k := 4) (j := 1) (v := .ref (q 18)) fX4_15 rfl rfl rfl dX4_add_21 ?_
    refine lv_aload_n hx hb dX4_add_24 rfl (lv_at hl 0 rfl) ?_
    refine r_get C O (k := 4) (j := 4) (v := .int (σ_2.1 4 4)) fX4_24 rfl rfl rfl dX4_add_25 ?_
    refine lv_iload_n hx hb dX4_add_28 rfl (lv_at hl 2 rfl) ?_
    refine r_iast C O (k := 18) rfl hf.1 dX4_add_29 (fun H locs σ_3 eσ_3 O => ?_)
    have hf := hf.2 σ_3 eσ_3
    refine lv_aload_n hx hb dX4_add_30 rfl (lv_at hl 0 rfl) ?_
    refine r_get C O (k := 4) (j := 2) (v := .ref (q 19)) fX4_18 rfl rfl rfl dX4_add_31 ?_
    refine lv_aload_n hx hb dX4_add_34 rfl (lv_at hl 0 rfl) ?_
    refine r_get C O (k := 4) (j := 4) (v := .int (σ_3.1 4 4)) fX4_24 rfl rfl rfl dX4_add_35 ?_
    refine lv_iload_n hx hb dX4_add_38 rfl (lv_at hl 3 rfl) ?_
    refine r_iast C O (k := 19) rfl hf.1 dX4_add_39 (fun H locs σ_4 eσ_4 O => ?_)
    have hf := hf.2 σ_4 eσ_4
    refine lv_aload_n hx hb dX4_add_40 rfl (lv_at hl 0 rfl) ?_
    refine r_get C O (k := 4) (j := 3) (v := .ref (q 20)) fX4_21 rfl rfl rfl dX4_add_41 ?_
    refine lv_aload_n hx hb dX4_add_44 rfl (lv_at hl 0 rfl) ?_
    refine r_get C O (k := 4) (j := 4) (v := .int (σ_4.1 4 4)) fX4_24 rfl rfl rfl dX4_add_45 ?_
    refine lv_iload hx hb dX4_add_48 (lv_at hl 4 rfl) ?_
    refine r_iast C O (k := 20) rfl hf.1 dX4_add_50 (fun H locs σ_5 eσ_5 O => ?_)
    have hf := hf.2 σ_5 eσ_5
    refine lv_aload_n hx hb dX4_add_51 rfl (lv_at hl 0 rfl) ?_
    refine lv_dup hx hb dX4_add_52 rfl ?_
    refine r_get C O (k := 4) (j := 4) (v := .int (σ_5.1 4 4)) fX4_24 rfl rfl rfl dX4_add_53 ?_
    refine lv_iconst (v := 1) hx hb dX4_add_56 (by decide) ?_
    refine lv_iadd hx hb dX4_add_57 ?_
    refine r_puti C O (k := 4) pX4_24 rfl rfl dX4_add_58 (fun H locs σ_6 eσ_6 O => ?_)
    have hf := hf σ_6 eσ_6
    refine lv_aload_n hx hb dX4_add_61 rfl (lv_at hl 0 rfl) ?_
    refine r_get C O (k := 4) (j := 4) (v := .int (σ_6.1 4 4)) fX4_24 rfl rfl rfl dX4_add_62 ?_
    refine lv_iconst (v := 1) hx hb dX4_add_65 (by decide) ?_
    refine lv_isub hx hb dX4_add_66 ?_
    exact hE _ _ _ _ _ _ (vp_nar_int _) O hf dX4_add_67
  · have hf := hf.2 c_1
    refine lv_iconst (v := (-1)) hx hb dX4_add_8 (by decide) ?_
    exact hE _ _ _ _ _ _ (vp_nar_int _) O hf dX4_add_9
theorem c_X4_add (l : Launch) (x1 : Int32) (x2 : Int32) (x3 : Int32) (x4 : Int32) : MetI l yX4_add cX4_add 5 .int 0 0 LC 4 (fun q => [.int x1, .int x2, .int x3, .int x4]) (w_X4_add x1 x2 x3 x4) := mk_I (own := RX4) (by decide) rfl (fun q => Nat.le_of_ble_eq_true rfl) (fun C hE O hl hf => b_X4_add C hE x1 x2 x3 x4 _ _ _ _ O hl hf)
end
section
variable {p : Program} {l : Launch} {e : Env} {R : Room} {s : State} {m : MethodId} {args : Array Value} {below : List Frame} {meth : Method} {c : Code} {E : State → Prop}
variable {D : va_G} {cs : Nat → ClassId} {q : Nat → Nat}
variable {Q : Int32 → St → Prop}
def w_X4_size (σ : St) (Q : Int32 → St → Prop) : Prop := Q (σ.1 4 4) σ
set_option maxHeartbeats 4000000 in
set_option maxRecDepth 100000 in
theorem b_X4_size (C : CX p R s m args meth c cX4_size 1 RX4 0 0 D cs) (hE : RI p l e R s m args below meth c cX4_size D cs LC q .int Q E) : ∀ (σ : St) (H : Heap) (locs : List Loc) (ls : Array Slot), OK D cs LC q s σ H locs → lv_has ls 1 [(0, .ref (q 4))] → w_X4_size  σ Q → W p l e R s m args below meth c H locs 0 0 E (F0 m 0 ls []) := by
  have hx := C.1
  have hb := C.2.1
  intro  σ H locs ls O hl hf
  unfold w_X4_size at hf
  refine lv_aload_n hx hb dX4_size_0 rfl (lv_at hl 0 rfl) ?_
  refine r_get C O (k := 4) (j := 4) (v := .int (σ.1 4 4)) fX4_24 rfl rfl rfl dX4_size_1 ?_
  exact hE _ _ _ _ _ _ (vp_nar_int _) O hf dX4_size_4
theorem c_X4_size (l : Launch) : MetI l yX4_size cX4_size 1 .int 0 0 LC 4 (fun q => []) (w_X4_size ) := mk_I (own := RX4) (by decide) rfl (fun q => Nat.le_of_ble_eq_true rfl) (fun C hE O hl hf => b_X4_size C hE _ _ _ _ O hl hf)
end
section
variable {p : Program} {l : Launch} {e : Env} {R : Room} {s : State} {m : MethodId} {args : Array Value} {below : List Frame} {meth : Method} {c : Code} {E : State → Prop}
variable {D : va_G} {cs : Nat → ClassId} {q : Nat → Nat}
variable {Q : Int32 → St → Prop}
def w_X4_rateOf (x1 : Int32) (σ : St) (Q : Int32 → St → Prop) : Prop := w_X4_has x1 σ (fun r_2 σ_1 => (r_2 = 0 → (Q ((-1)) σ_1)) ∧ (¬ r_2 = 0 → (vp_in x1 4 ∧ (Q (σ_1.1 20 x1.toNatClampNeg) σ_1))))
set_option maxHeartbeats 4000000 in
set_option maxRecDepth 100000 in
theorem b_X4_rateOf (C : CX p R s m args meth c cX4_rateOf 2 RX4 1 21 D cs) (hE : RI p l e R s m args below meth c cX4_rateOf D cs LC q .int Q E) : ∀ (x1 : Int32) (σ : St) (H : Heap) (locs : List Loc) (ls : Array Slot), OK D cs LC q s σ H locs → lv_has ls 2 [(0, .ref (q 4)), (1, .int x1)] → w_X4_rateOf x1 σ Q → W p l e R s m args below meth c H locs 0 0 E (F0 m 0 ls []) := by
  have hx := C.1
  have hb := C.2.1
  intro x1 σ H locs ls O hl hf
  unfold w_X4_rateOf at hf
  refine lv_aload_n hx hb dX4_rateOf_0 rfl (lv_at hl 0 rfl) ?_
  refine lv_iload_n hx hb dX4_rateOf_1 rfl (lv_at hl 1 rfl) ?_
  refine r_callI C O hl (c_X4_has l x1) mX4_28 (by decide) rfl rfl rfl rfl (Nat.le_of_ble_eq_true rfl) hf dX4_rateOf_2 (fun r_2 σ_1 H locs O hf => ?_)
  refine lv_if_eq (tgt := 17) hx hb dX4_rateOf_5 (by decide) (fun c_3 => ?_) (fun c_3 => ?_)
  · have hf := hf.1 c_3
    refine lv_iconst (v := (-1)) hx hb dX4_rateOf_17 (by decide) ?_
    exact hE _ _ _ _ _ _ (vp_nar_int _) O hf dX4_rateOf_18
  · have hf := hf.2 c_3
    refine lv_aload_n hx hb dX4_rateOf_8 rfl (lv_at hl 0 rfl) ?_
    refine r_get C O (k := 4) (j := 3) (v := .ref (q 20)) fX4_21 rfl rfl rfl dX4_rateOf_9 ?_
    refine lv_iload_n hx hb dX4_rateOf_12 rfl (lv_at hl 1 rfl) ?_
    refine r_iald C O (k := 20) rfl hf.1 dX4_rateOf_13 ?_
    have hf := hf.2
    refine lv_goto (tgt := 18) hx hb dX4_rateOf_14 (by decide) ?_
    exact hE _ _ _ _ _ _ (vp_nar_int _) O hf dX4_rateOf_18
theorem c_X4_rateOf (l : Launch) (x1 : Int32) : MetI l yX4_rateOf cX4_rateOf 2 .int 1 21 LC 4 (fun q => [.int x1]) (w_X4_rateOf x1) := mk_I (own := RX4) (by decide) rfl (fun q => Nat.le_of_ble_eq_true rfl) (fun C hE O hl hf => b_X4_rateOf C hE x1 _ _ _ _ O hl hf)
end
section
variable {p : Program} {l : Launch} {e : Env} {R : Room} {s : State} {m : MethodId} {args : Array Value} {below : List Frame} {meth : Method} {c : Code} {E : State → Prop}
variable {D : va_G} {cs : Nat → ClassId} {q : Nat → Nat}
variable {Q : Int32 → St → Prop}
def w_X7_add (x1 : Int32) (x2 : Int32) (x3 : Int32) (σ : St) (Q : Int32 → St → Prop) : Prop := ((σ.1 6 3) < 20 → (vp_in (σ.1 6 3) 20 ∧ (∀ σ_2 : St, σ_2 = wr σ 27 (σ.1 6 3).toNatClampNeg x1 → (vp_in (σ_2.1 6 3) 20 ∧ (∀ σ_3 : St, σ_3 = wr σ_2 28 (σ_2.1 6 3).toNatClampNeg x2 → (vp_in (σ_3.1 6 3) 20 ∧ (∀ σ_4 : St, σ_4 = wr σ_3 29 (σ_3.1 6 3).toNatClampNeg x3 → (∀ σ_5 : St, σ_5 = wr σ_4 6 3 ((σ_4.1 6 3) + 1) → (Q ((σ_5.1 6 3) - 1) σ_5))))))))) ∧ (¬ (σ.1 6 3) < 20 → (Q ((-1)) σ))
set_option maxHeartbeats 4000000 in
set_option maxRecDepth 100000 in
theorem b_X7_add (C : CX p R s m args meth c cX7_add 4 RX7 0 0 D cs) (hE : RI p l e R s m args below meth c cX7_add D cs LC q .int Q E) : ∀ (x1 : Int32) (x2 : Int32) (x3 : Int32) (σ : St) (H : Heap) (locs : List Loc) (ls : Array Slot), OK D cs LC q s σ H locs → lv_has ls 4 [(0, .ref (q 6)), (1, .int x1), (2, .int x2), (3, .int x3)] → w_X7_add x1 x2 x3 σ Q → W p l e R s m args below meth c H locs 0 0 E (F0 m 0 ls []) := by
  have hx := C.1
  have hb := C.2.1
  intro x1 x2 x3 σ H locs ls O hl hf
  unfold w_X7_add at hf
  refine lv_aload_n hx hb dX7_add_0 rfl (lv_at hl 0 rfl) ?_
  refine r_get C O (k := 6) (j := 3) (v := .int (σ.1 6 3)) fX7_21 rfl rfl rfl dX7_add_1 ?_
  refine lv_bipush (v := 20) hx hb dX7_add_4 (by decide) ?_
  refine lv_icmp_lt (tgt := 11) hx hb dX7_add_6 (by decide) (fun c_1 => ?_) (fun c_1 => ?_)
  · have hf := hf.1 c_1
    refine lv_aload_n hx hb dX7_add_11 rfl (lv_at hl 0 rfl) ?_
    refine r_get C O (k := 6) (j := 0) (v := .ref (q 27)) fX7_11 rfl rfl rfl dX7_add_12 ?_
    refine lv_aload_n hx hb dX7_add_15 rfl (lv_at hl 0 rfl) ?_
    refine r_get C O (k := 6) (j := 3) (v := .int (σ.1 6 3)) fX7_21 rfl rfl rfl dX7_add_16 ?_
    refine lv_iload_n hx hb dX7_add_19 rfl (lv_at hl 1 rfl) ?_
    refine r_iast C O (k := 27) rfl hf.1 dX7_add_20 (fun H locs σ_2 eσ_2 O => ?_)
    have hf := hf.2 σ_2 eσ_2
    refine lv_aload_n hx hb dX7_add_21 rfl (lv_at hl 0 rfl) ?_
    refine r_get C O (k := 6) (j := 1) (v := .ref (q 28)) fX7_15 rfl rfl rfl dX7_add_22 ?_
    refine lv_aload_n hx hb dX7_add_25 rfl (lv_at hl 0 rfl) ?_
    refine r_get C O (k := 6) (j := 3) (v := .int (σ_2.1 6 3)) fX7_21 rfl rfl rfl dX7_add_26 ?_
    refine lv_iload_n hx hb dX7_add_29 rfl (lv_at hl 2 rfl) ?_
    refine r_iast C O (k := 28) rfl hf.1 dX7_add_30 (fun H locs σ_3 eσ_3 O => ?_)
    have hf := hf.2 σ_3 eσ_3
    refine lv_aload_n hx hb dX7_add_31 rfl (lv_at hl 0 rfl) ?_
    refine r_get C O (k := 6) (j := 2) (v := .ref (q 29)) fX7_18 rfl rfl rfl dX7_add_32 ?_
    refine lv_aload_n hx hb dX7_add_35 rfl (lv_at hl 0 rfl) ?_
    refine r_get C O (k := 6) (j := 3) (v := .int (σ_3.1 6 3)) fX7_21 rfl rfl rfl dX7_add_36 ?_
    refine lv_iload_n hx hb dX7_add_39 rfl (lv_at hl 3 rfl) ?_
    refine r_iast C O (k := 29) rfl hf.1 dX7_add_40 (fun H locs σ_4 eσ_4 O => ?_)
    have hf := hf.2 σ_4 eσ_4
    refine lv_aload_n hx hb dX7_add_41 rfl (lv_at hl 0 rfl) ?_
    refine lv_dup hx hb dX7_add_42 rfl ?_
    refine r_get C O (k := 6) (j := 3) (v := .int (σ_4.1 6 3)) fX7_21 rfl rfl rfl dX7_add_43 ?_
    refine lv_iconst (v := 1) hx hb dX7_add_46 (by decide) ?_
    refine lv_iadd hx hb dX7_add_47 ?_
    refine r_puti C O (k := 6) pX7_21 rfl rfl dX7_add_48 (fun H locs σ_5 eσ_5 O => ?_)
    have hf := hf σ_5 eσ_5
    refine lv_aload_n hx hb dX7_add_51 rfl (lv_at hl 0 rfl) ?_
    refine r_get C O (k := 6) (j := 3) (v := .int (σ_5.1 6 3)) fX7_21 rfl rfl rfl dX7_add_52 ?_
    refine lv_iconst (v := 1) hx hb dX7_add_55 (by decide) ?_
    refine lv_isub hx hb dX7_add_56 ?_
    exact hE _ _ _ _ _ _ (vp_nar_int _) O hf dX7_add_57
  · have hf := hf.2 c_1
    refine lv_iconst (v := (-1)) hx hb dX7_add_9 (by decide) ?_
    exact hE _ _ _ _ _ _ (vp_nar_int _) O hf dX7_add_10
theorem c_X7_add (l : Launch) (x1 : Int32) (x2 : Int32) (x3 : Int32) : MetI l yX7_add cX7_add 4 .int 0 0 LC 6 (fun q => [.int x1, .int x2, .int x3]) (w_X7_add x1 x2 x3) := mk_I (own := RX7) (by decide) rfl (fun q => Nat.le_of_ble_eq_true rfl) (fun C hE O hl hf => b_X7_add C hE x1 x2 x3 _ _ _ _ O hl hf)
end
section
variable {p : Program} {l : Launch} {e : Env} {R : Room} {s : State} {m : MethodId} {args : Array Value} {below : List Frame} {meth : Method} {c : Code} {E : State → Prop}
variable {D : va_G} {cs : Nat → ClassId} {q : Nat → Nat}
variable {Q : Int32 → St → Prop}
def w_X7_size (σ : St) (Q : Int32 → St → Prop) : Prop := Q (σ.1 6 3) σ
set_option maxHeartbeats 4000000 in
set_option maxRecDepth 100000 in
theorem b_X7_size (C : CX p R s m args meth c cX7_size 1 RX7 0 0 D cs) (hE : RI p l e R s m args below meth c cX7_size D cs LC q .int Q E) : ∀ (σ : St) (H : Heap) (locs : List Loc) (ls : Array Slot), OK D cs LC q s σ H locs → lv_has ls 1 [(0, .ref (q 6))] → w_X7_size  σ Q → W p l e R s m args below meth c H locs 0 0 E (F0 m 0 ls []) := by
  have hx := C.1
  have hb := C.2.1
  intro  σ H locs ls O hl hf
  unfold w_X7_size at hf
  refine lv_aload_n hx hb dX7_size_0 rfl (lv_at hl 0 rfl) ?_
  refine r_get C O (k := 6) (j := 3) (v := .int (σ.1 6 3)) fX7_21 rfl rfl rfl dX7_size_1 ?_
  exact hE _ _ _ _ _ _ (vp_nar_int _) O hf dX7_size_4
theorem c_X7_size (l : Launch) : MetI l yX7_size cX7_size 1 .int 0 0 LC 6 (fun q => []) (w_X7_size ) := mk_I (own := RX7) (by decide) rfl (fun q => Nat.le_of_ble_eq_true rfl) (fun C hE O hl hf => b_X7_size C hE _ _ _ _ O hl hf)
end
section
variable {p : Program} {l : Launch} {e : Env} {R : Room} {s : State} {m : MethodId} {args : Array Value} {below : List Frame} {meth : Method} {c : Code} {E : State → Prop}
variable {D : va_G} {cs : Nat → ClassId} {q : Nat → Nat}
variable {Q : Int32 → St → Prop}
def w_X8_length (σ : St) (Q : Int32 → St → Prop) : Prop := Q (σ.1 1 1) σ
set_option maxHeartbeats 4000000 in
set_option maxRecDepth 100000 in
theorem b_X8_length (C : CX p R s m args meth c cX8_length 1 RX8 0 0 D cs) (hE : RI p l e R s m args below meth c cX8_length D cs LC q .int Q E) : ∀ (σ : St) (H : Heap) (locs : List Loc) (ls : Array Slot), OK D cs LC q s σ H locs → lv_has ls 1 [(0, .ref (q 1))] → w_X8_length  σ Q → W p l e R s m args below meth c H locs 0 0 E (F0 m 0 ls []) := by
  have hx := C.1
  have hb := C.2.1
  intro  σ H locs ls O hl hf
  unfold w_X8_length at hf
  refine lv_aload_n hx hb dX8_length_0 rfl (lv_at hl 0 rfl) ?_
  refine r_get C O (k := 1) (j := 1) (v := .int (σ.1 1 1)) fX8_13 rfl rfl rfl dX8_length_1 ?_
  exact hE _ _ _ _ _ _ (vp_nar_int _) O hf dX8_length_4
theorem c_X8_length (l : Launch) : MetI l yX8_length cX8_length 1 .int 0 0 LC 1 (fun q => []) (w_X8_length ) := mk_I (own := RX8) (by decide) rfl (fun q => Nat.le_of_ble_eq_true rfl) (fun C hE O hl hf => b_X8_length C hE _ _ _ _ O hl hf)
end
section
variable {p : Program} {l : Launch} {e : Env} {R : Room} {s : State} {m : MethodId} {args : Array Value} {below : List Frame} {meth : Method} {c : Code} {E : State → Prop}
variable {D : va_G} {cs : Nat → ClassId} {q : Nat → Nat}
variable {Q : Int32 → St → Prop}
def w_X8_hasRoom (σ : St) (Q : Int32 → St → Prop) : Prop := (40 < ((σ.1 1 1) + 20) → (Q 0 σ)) ∧ (¬ 40 < ((σ.1 1 1) + 20) → (Q 1 σ))
set_option maxHeartbeats 4000000 in
set_option maxRecDepth 100000 in
theorem b_X8_hasRoom (C : CX p R s m args meth c cX8_hasRoom 1 RX8 0 0 D cs) (hE : RI p l e R s m args below meth c cX8_hasRoom D cs LC q .boolean Q E) : ∀ (σ : St) (H : Heap) (locs : List Loc) (ls : Array Slot), OK D cs LC q s σ H locs → lv_has ls 1 [(0, .ref (q 1))] → w_X8_hasRoom  σ Q → W p l e R s m args below meth c H locs 0 0 E (F0 m 0 ls []) := by
  have hx := C.1
  have hb := C.2.1
  intro  σ H locs ls O hl hf
  unfold w_X8_hasRoom at hf
  refine lv_aload_n hx hb dX8_hasRoom_0 rfl (lv_at hl 0 rfl) ?_
  refine r_get C O (k := 1) (j := 1) (v := .int (σ.1 1 1)) fX8_13 rfl rfl rfl dX8_hasRoom_1 ?_
  refine lv_bipush (v := 20) hx hb dX8_hasRoom_4 (by decide) ?_
  refine lv_iadd hx hb dX8_hasRoom_6 ?_
  refine lv_bipush (v := 40) hx hb dX8_hasRoom_7 (by decide) ?_
  refine lv_icmp_gt (tgt := 16) hx hb dX8_hasRoom_9 (by decide) (fun c_1 => ?_) (fun c_1 => ?_)
  · have hf := hf.1 c_1
    refine lv_iconst (v := 0) hx hb dX8_hasRoom_16 (by decide) ?_
    exact hE _ _ _ _ _ _ rfl O hf dX8_hasRoom_17
  · have hf := hf.2 c_1
    refine lv_iconst (v := 1) hx hb dX8_hasRoom_12 (by decide) ?_
    refine lv_goto (tgt := 17) hx hb dX8_hasRoom_13 (by decide) ?_
    exact hE _ _ _ _ _ _ rfl O hf dX8_hasRoom_17
theorem c_X8_hasRoom (l : Launch) : MetI l yX8_hasRoom cX8_hasRoom 1 .boolean 0 0 LC 1 (fun q => []) (w_X8_hasRoom ) := mk_I (own := RX8) (by decide) rfl (fun q => Nat.le_of_ble_eq_true rfl) (fun C hE O hl hf => b_X8_hasRoom C hE _ _ _ _ O hl hf)
end
section
variable {p : Program} {l : Launch} {e : Env} {R : Room} {s : State} {m : MethodId} {args : Array Value} {below : List Frame} {meth : Method} {c : Code} {E : State → Prop}
variable {D : va_G} {cs : Nat → ClassId} {q : Nat → Nat}
variable {Q : St → Prop}
def w_X8_write_3 (Q : St → Prop) : Nat → Int32 → Int32 → St → Prop
  | 0, _, _, _ => False
  | n + 1, x1, x2, σ => (x2 < 0 → (Q σ)) ∧ (¬ x2 < 0 → ((40 ≤ (σ.1 1 1) → (w_X8_write_3 Q n x1 (x2 + (-8)) σ)) ∧ (¬ 40 ≤ (σ.1 1 1) → (vp_in (σ.1 1 1) 40 ∧ (∀ σ_3 : St, σ_3 = wr σ 11 (σ.1 1 1).toNatClampNeg (((x1.toUInt32 >>> ((x2 : Int32).toUInt32 &&& Int32.toUInt32 31)).toInt32) &&& 255) → (∀ σ_4 : St, σ_4 = wr σ_3 1 1 ((σ_3.1 1 1) + 1) → (w_X8_write_3 Q n x1 (x2 + (-8)) σ_4)))))))
set_option maxHeartbeats 4000000 in
set_option maxRecDepth 100000 in
theorem b_X8_write_3 (C : CX p R s m args meth c cX8_write 3 RX8 0 0 D cs) (hE : RV p l e R s m args below meth c cX8_write D cs LC q Q E) : ∀ n : Nat, ∀ (x1 : Int32) (x2 : Int32) (σ : St) (H : Heap) (locs : List Loc) (ls : Array Slot), OK D cs LC q s σ H locs → lv_has ls 3 [(0, .ref (q 1)), (1, .int x1), (2, .int x2)] → w_X8_write_3 Q n x1 x2 σ → W p l e R s m args below meth c H locs 0 0 E (F0 m 3 ls []) := by
  have hx := C.1
  have hb := C.2.1
  intro n
  induction n with
  | zero => intro x1 x2 σ H locs ls O hl hf; exact hf.elim
  | succ n ih =>
    intro x1 x2 σ H locs ls O hl hf
    unfold w_X8_write_3 at hf
    refine lv_iload_n hx hb dX8_write_3 rfl (lv_at hl 2 rfl) ?_
    refine lv_if_lt (tgt := 48) hx hb dX8_write_4 (by decide) (fun c_1 => ?_) (fun c_1 => ?_)
    · have hf := hf.1 c_1
      exact hE _ _ _ _ _ O hf dX8_write_48
    · have hf := hf.2 c_1
      refine lv_aload_n hx hb dX8_write_7 rfl (lv_at hl 0 rfl) ?_
      refine r_get C O (k := 1) (j := 1) (v := .int (σ.1 1 1)) fX8_13 rfl rfl rfl dX8_write_8 ?_
      refine lv_bipush (v := 40) hx hb dX8_write_11 (by decide) ?_
      refine lv_icmp_ge (tgt := 42) hx hb dX8_write_13 (by decide) (fun c_2 => ?_) (fun c_2 => ?_)
      · have hf := hf.1 c_2
        refine lv_iinc (v := x2 + (-8)) (lv' := [(2, .int (x2 + (-8))), (0, .ref (q 1)), (1, .int x1)]) hx hb dX8_write_42 hl (k := 2) rfl rfl (by decide) rfl (fun ls hl => ?_)
        refine lv_goto (tgt := 3) hx hb dX8_write_45 (by decide) ?_
        exact ih x1 (x2 + (-8)) σ _ _ ls O (lv_sub hl [1, 2, 0] rfl) hf
      · have hf := hf.2 c_2
        refine lv_aload_n hx hb dX8_write_16 rfl (lv_at hl 0 rfl) ?_
        refine r_get C O (k := 1) (j := 0) (v := .ref (q 11)) fX8_9 rfl rfl rfl dX8_write_17 ?_
        refine lv_aload_n hx hb dX8_write_20 rfl (lv_at hl 0 rfl) ?_
        refine r_get C O (k := 1) (j := 1) (v := .int (σ.1 1 1)) fX8_13 rfl rfl rfl dX8_write_21 ?_
        refine lv_iload_n hx hb dX8_write_24 rfl (lv_at hl 1 rfl) ?_
        refine lv_iload_n hx hb dX8_write_25 rfl (lv_at hl 2 rfl) ?_
        refine lv_iushr (v := (x1.toUInt32 >>> ((x2 : Int32).toUInt32 &&& Int32.toUInt32 31)).toInt32) hx hb dX8_write_26 rfl ?_
        refine lv_sipush (v := 255) hx hb dX8_write_27 (by decide) ?_
        refine lv_iand hx hb dX8_write_30 ?_
        refine r_iast C O (k := 11) rfl hf.1 dX8_write_31 (fun H locs σ_3 eσ_3 O => ?_)
        have hf := hf.2 σ_3 eσ_3
        refine lv_aload_n hx hb dX8_write_32 rfl (lv_at hl 0 rfl) ?_
        refine lv_dup hx hb dX8_write_33 rfl ?_
        refine r_get C O (k := 1) (j := 1) (v := .int (σ_3.1 1 1)) fX8_13 rfl rfl rfl dX8_write_34 ?_
        refine lv_iconst (v := 1) hx hb dX8_write_37 (by decide) ?_
        refine lv_iadd hx hb dX8_write_38 ?_
        refine r_puti C O (k := 1) pX8_13 rfl rfl dX8_write_39 (fun H locs σ_4 eσ_4 O => ?_)
        have hf := hf σ_4 eσ_4
        refine lv_iinc (v := x2 + (-8)) (lv' := [(2, .int (x2 + (-8))), (0, .ref (q 1)), (1, .int x1)]) hx hb dX8_write_42 hl (k := 2) rfl rfl (by decide) rfl (fun ls hl => ?_)
        refine lv_goto (tgt := 3) hx hb dX8_write_45 (by decide) ?_
        exact ih x1 (x2 + (-8)) σ_4 _ _ ls O (lv_sub hl [1, 2, 0] rfl) hf
def w_X8_write (x1 : Int32) (σ : St) (Q : St → Prop) : Prop := ∃ n : Nat, w_X8_write_3 Q n x1 24 σ
set_option maxHeartbeats 4000000 in
set_option maxRecDepth 100000 in
theorem b_X8_write (C : CX p R s m args meth c cX8_write 3 RX8 0 0 D cs) (hE : RV p l e R s m args below meth c cX8_write D cs LC q Q E) : ∀ (x1 : Int32) (σ : St) (H : Heap) (locs : List Loc) (ls : Array Slot), OK D cs LC q s σ H locs → lv_has ls 3 [(0, .ref (q 1)), (1, .int x1)] → w_X8_write x1 σ Q → W p l e R s m args below meth c H locs 0 0 E (F0 m 0 ls []) := by
  have hx := C.1
  have hb := C.2.1
  intro x1 σ H locs ls O hl hf
  unfold w_X8_write at hf
  refine lv_bipush (v := 24) hx hb dX8_write_0 (by decide) ?_
  refine lv_istore_n (lv' := [(2, .int 24), (0, .ref (q 1)), (1, .int x1)]) hx hb dX8_write_2 rfl hl (by decide) rfl (fun ls hl => ?_)
  obtain ⟨nn, hf⟩ := hf
  exact b_X8_write_3 C hE nn x1 24 σ _ _ ls O (lv_sub hl [1, 2, 0] rfl) hf
theorem c_X8_write (l : Launch) (x1 : Int32) : MetV l yX8_write cX8_write 3 0 0 LC 1 (fun q => [.int x1]) (w_X8_write x1) := mk_V (own := RX8) (by decide) rfl (fun q => Nat.le_of_ble_eq_true rfl) (fun C hE O hl hf => b_X8_write C hE x1 _ _ _ _ O hl hf)
end
section
variable {p : Program} {l : Launch} {e : Env} {R : Room} {s : State} {m : MethodId} {args : Array Value} {below : List Frame} {meth : Method} {c : Code} {E : State → Prop}
variable {D : va_G} {cs : Nat → ClassId} {q : Nat → Nat}
variable {Q : St → Prop}
def w_X8_wipe (σ : St) (Q : St → Prop) : Prop := ∀ σ_1 : St, σ_1 = wr σ 1 1 0 → (Q σ_1)
set_option maxHeartbeats 4000000 in
set_option maxRecDepth 100000 in
theorem b_X8_wipe (C : CX p R s m args meth c cX8_wipe 1 RX8 0 0 D cs) (hE : RV p l e R s m args below meth c cX8_wipe D cs LC q Q E) : ∀ (σ : St) (H : Heap) (locs : List Loc) (ls : Array Slot), OK D cs LC q s σ H locs → lv_has ls 1 [(0, .ref (q 1))] → w_X8_wipe  σ Q → W p l e R s m args below meth c H locs 0 0 E (F0 m 0 ls []) := by
  have hx := C.1
  have hb := C.2.1
  intro  σ H locs ls O hl hf
  unfold w_X8_wipe at hf
  refine lv_aload_n hx hb dX8_wipe_0 rfl (lv_at hl 0 rfl) ?_
  refine lv_iconst (v := 0) hx hb dX8_wipe_1 (by decide) ?_
  refine r_puti C O (k := 1) pX8_13 rfl rfl dX8_wipe_2 (fun H locs σ_1 eσ_1 O => ?_)
  have hf := hf σ_1 eσ_1
  exact hE _ _ _ _ _ O hf dX8_wipe_5
theorem c_X8_wipe (l : Launch) : MetV l yX8_wipe cX8_wipe 1 0 0 LC 1 (fun q => []) (w_X8_wipe ) := mk_V (own := RX8) (by decide) rfl (fun q => Nat.le_of_ble_eq_true rfl) (fun C hE O hl hf => b_X8_wipe C hE _ _ _ _ O hl hf)
end
section
variable {p : Program} {l : Launch} {e : Env} {R : Room} {s : State} {m : MethodId} {args : Array Value} {below : List Frame} {meth : Method} {c : Code} {E : State → Prop}
variable {D : va_G} {cs : Nat → ClassId} {q : Nat → Nat}
variable {Q : St → Prop}
def w_X9_put (x1 : Int32) (x2 : Int32) (x3 : Int32) (σ : St) (Q : St → Prop) : Prop := w_X10_isField x1 (fun r_1 => (r_1 = 0 → (Q σ)) ∧ (¬ r_1 = 0 → (w_X10_isField x2 (fun r_3 => (r_3 = 0 → (Q σ)) ∧ (¬ r_3 = 0 → (vp_in ((x1 * 8) + x2) 64 ∧ (∀ σ_5 : St, σ_5 = wr σ 16 ((x1 * 8) + x2).toNatClampNeg x3 → (vp_in ((x2 * 8) + x1) 64 ∧ (∀ σ_6 : St, σ_6 = wr σ_5 16 ((x2 * 8) + x1).toNatClampNeg x3 → (Q σ_6))))))))))
set_option maxHeartbeats 4000000 in
set_option maxRecDepth 100000 in
theorem b_X9_put (C : CX p R s m args meth c cX9_put 4 RX9 1 20 D cs) (hE : RV p l e R s m args below meth c cX9_put D cs LC q Q E) : ∀ (x1 : Int32) (x2 : Int32) (x3 : Int32) (σ : St) (H : Heap) (locs : List Loc) (ls : Array Slot), OK D cs LC q s σ H locs → lv_has ls 4 [(0, .ref (q 3)), (1, .int x1), (2, .int x2), (3, .int x3)] → w_X9_put x1 x2 x3 σ Q → W p l e R s m args below meth c H locs 0 0 E (F0 m 0 ls []) := by
  have hx := C.1
  have hb := C.2.1
  intro x1 x2 x3 σ H locs ls O hl hf
  unfold w_X9_put at hf
  refine lv_iload_n hx hb dX9_put_0 rfl (lv_at hl 1 rfl) ?_
  refine r_callN C hl (c_X10_isField l x1) mX9_15 (by decide) rfl rfl (Nat.le_of_ble_eq_true rfl) hf dX9_put_1 (fun r_1 hf => ?_)
  refine lv_if_eq (tgt := 38) hx hb dX9_put_4 (by decide) (fun c_2 => ?_) (fun c_2 => ?_)
  · have hf := hf.1 c_2
    exact hE _ _ _ _ _ O hf dX9_put_38
  · have hf := hf.2 c_2
    refine lv_iload_n hx hb dX9_put_7 rfl (lv_at hl 2 rfl) ?_
    refine r_callN C hl (c_X10_isField l x2) mX9_15 (by decide) rfl rfl (Nat.le_of_ble_eq_true rfl) hf dX9_put_8 (fun r_3 hf => ?_)
    refine lv_if_eq (tgt := 38) hx hb dX9_put_11 (by decide) (fun c_4 => ?_) (fun c_4 => ?_)
    · have hf := hf.1 c_4
      exact hE _ _ _ _ _ O hf dX9_put_38
    · have hf := hf.2 c_4
      refine lv_aload_n hx hb dX9_put_14 rfl (lv_at hl 0 rfl) ?_
      refine r_get C O (k := 3) (j := 0) (v := .ref (q 16)) fX9_9 rfl rfl rfl dX9_put_15 ?_
      refine lv_iload_n hx hb dX9_put_18 rfl (lv_at hl 1 rfl) ?_
      refine lv_bipush (v := 8) hx hb dX9_put_19 (by decide) ?_
      refine lv_imul hx hb dX9_put_21 ?_
      refine lv_iload_n hx hb dX9_put_22 rfl (lv_at hl 2 rfl) ?_
      refine lv_iadd hx hb dX9_put_23 ?_
      refine lv_iload_n hx hb dX9_put_24 rfl (lv_at hl 3 rfl) ?_
      refine r_iast C O (k := 16) rfl hf.1 dX9_put_25 (fun H locs σ_5 eσ_5 O => ?_)
      have hf := hf.2 σ_5 eσ_5
      refine lv_aload_n hx hb dX9_put_26 rfl (lv_at hl 0 rfl) ?_
      refine r_get C O (k := 3) (j := 0) (v := .ref (q 16)) fX9_9 rfl rfl rfl dX9_put_27 ?_
      refine lv_iload_n hx hb dX9_put_30 rfl (lv_at hl 2 rfl) ?_
      refine lv_bipush (v := 8) hx hb dX9_put_31 (by decide) ?_
      refine lv_imul hx hb dX9_put_33 ?_
      refine lv_iload_n hx hb dX9_put_34 rfl (lv_at hl 1 rfl) ?_
      refine lv_iadd hx hb dX9_put_35 ?_
      refine lv_iload_n hx hb dX9_put_36 rfl (lv_at hl 3 rfl) ?_
      refine r_iast C O (k := 16) rfl hf.1 dX9_put_37 (fun H locs σ_6 eσ_6 O => ?_)
      have hf := hf.2 σ_6 eσ_6
      exact hE _ _ _ _ _ O hf dX9_put_38
theorem c_X9_put (l : Launch) (x1 : Int32) (x2 : Int32) (x3 : Int32) : MetV l yX9_put cX9_put 4 1 20 LC 3 (fun q => [.int x1, .int x2, .int x3]) (w_X9_put x1 x2 x3) := mk_V (own := RX9) (by decide) rfl (fun q => Nat.le_of_ble_eq_true rfl) (fun C hE O hl hf => b_X9_put C hE x1 x2 x3 _ _ _ _ O hl hf)
end
end
