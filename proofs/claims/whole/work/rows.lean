section
-- ===== PART A: goes FIRST, ahead of the names: the tables' words, and 'selects' of the private methods out of them =====
/-- a private method of a class that the tables say can be made, by its rows of tables_1 -/
def lw_okq (q : MethodName × Nat) : Prop := (q.1.cls ≠ "java/lang/invoke/MethodHandle" ∧ q.1.cls ≠ "java/lang/invoke/VarHandle") ∧ Cond.instantiable q.1.cls q.2 ∈ tables_1 ∧ Cond.privateMethod q.1 ∈ tables_1 ∧ Cond.instanceMethod q.1 ∈ tables_1
theorem lw_p0 : lw_okq (⟨"MillSails", "beginAnew", "()V"⟩, 14) := ⟨⟨by decide +kernel, by decide +kernel⟩, List.mem_of_getElem? (i := 11) (by decide +kernel), List.mem_of_getElem? (i := 313) (by decide +kernel), List.mem_of_getElem? (i := 314) (by decide +kernel)⟩
theorem lw_p1 : lw_okq (⟨"MillSails", "kindNow", "(I)I"⟩, 14) := ⟨⟨by decide +kernel, by decide +kernel⟩, List.mem_of_getElem? (i := 11) (by decide +kernel), List.mem_of_getElem? (i := 322) (by decide +kernel), List.mem_of_getElem? (i := 323) (by decide +kernel)⟩
theorem lw_p2 : lw_okq (⟨"MillSails", "struck", "(III)I"⟩, 14) := ⟨⟨by decide +kernel, by decide +kernel⟩, List.mem_of_getElem? (i := 11) (by decide +kernel), List.mem_of_getElem? (i := 362) (by decide +kernel), List.mem_of_getElem? (i := 363) (by decide +kernel)⟩
theorem lw_p3 : lw_okq (⟨"MillSails", "remember", "()V"⟩, 14) := ⟨⟨by decide +kernel, by decide +kernel⟩, List.mem_of_getElem? (i := 11) (by decide +kernel), List.mem_of_getElem? (i := 386) (by decide +kernel), List.mem_of_getElem? (i := 387) (by decide +kernel)⟩
theorem lw_p4 : lw_okq (⟨"MillSails", "mayChange", "(II)Z"⟩, 14) := ⟨⟨by decide +kernel, by decide +kernel⟩, List.mem_of_getElem? (i := 11) (by decide +kernel), List.mem_of_getElem? (i := 407) (by decide +kernel), List.mem_of_getElem? (i := 408) (by decide +kernel)⟩
theorem lw_p5 : lw_okq (⟨"MillSails", "strokeHome", "(II)I"⟩, 14) := ⟨⟨by decide +kernel, by decide +kernel⟩, List.mem_of_getElem? (i := 11) (by decide +kernel), List.mem_of_getElem? (i := 463) (by decide +kernel), List.mem_of_getElem? (i := 464) (by decide +kernel)⟩
theorem lw_p6 : lw_okq (⟨"MillSails", "firstNearer", "(III)I"⟩, 14) := ⟨⟨by decide +kernel, by decide +kernel⟩, List.mem_of_getElem? (i := 11) (by decide +kernel), List.mem_of_getElem? (i := 467) (by decide +kernel), List.mem_of_getElem? (i := 468) (by decide +kernel)⟩
theorem lw_p7 : lw_okq (⟨"MillSails", "inOne", "(II)I"⟩, 14) := ⟨⟨by decide +kernel, by decide +kernel⟩, List.mem_of_getElem? (i := 11) (by decide +kernel), List.mem_of_getElem? (i := 479) (by decide +kernel), List.mem_of_getElem? (i := 480) (by decide +kernel)⟩
theorem lw_p8 : lw_okq (⟨"MillSails", "allLay", "(II)Z"⟩, 14) := ⟨⟨by decide +kernel, by decide +kernel⟩, List.mem_of_getElem? (i := 11) (by decide +kernel), List.mem_of_getElem? (i := 501) (by decide +kernel), List.mem_of_getElem? (i := 502) (by decide +kernel)⟩
theorem lw_p9 : lw_okq (⟨"MillSails", "leastStrokes", "(I)I"⟩, 14) := ⟨⟨by decide +kernel, by decide +kernel⟩, List.mem_of_getElem? (i := 11) (by decide +kernel), List.mem_of_getElem? (i := 509) (by decide +kernel), List.mem_of_getElem? (i := 510) (by decide +kernel)⟩
theorem lw_p10 : lw_okq (⟨"MillSails", "homeIfChanged", "(I)I"⟩, 14) := ⟨⟨by decide +kernel, by decide +kernel⟩, List.mem_of_getElem? (i := 11) (by decide +kernel), List.mem_of_getElem? (i := 517) (by decide +kernel), List.mem_of_getElem? (i := 518) (by decide +kernel)⟩
theorem lw_p11 : lw_okq (⟨"MillSails", "asBoard", "(II)I"⟩, 14) := ⟨⟨by decide +kernel, by decide +kernel⟩, List.mem_of_getElem? (i := 11) (by decide +kernel), List.mem_of_getElem? (i := 531) (by decide +kernel), List.mem_of_getElem? (i := 532) (by decide +kernel)⟩
theorem lw_p12 : lw_okq (⟨"MillSails", "asCell", "(I)I"⟩, 14) := ⟨⟨by decide +kernel, by decide +kernel⟩, List.mem_of_getElem? (i := 11) (by decide +kernel), List.mem_of_getElem? (i := 536) (by decide +kernel), List.mem_of_getElem? (i := 537) (by decide +kernel)⟩
theorem lw_p13 : lw_okq (⟨"MillSails", "asPond", "(I)I"⟩, 14) := ⟨⟨by decide +kernel, by decide +kernel⟩, List.mem_of_getElem? (i := 11) (by decide +kernel), List.mem_of_getElem? (i := 540) (by decide +kernel), List.mem_of_getElem? (i := 541) (by decide +kernel)⟩
theorem lw_p14 : lw_okq (⟨"MillSails", "asMill", "(II)I"⟩, 14) := ⟨⟨by decide +kernel, by decide +kernel⟩, List.mem_of_getElem? (i := 11) (by decide +kernel), List.mem_of_getElem? (i := 545) (by decide +kernel), List.mem_of_getElem? (i := 546) (by decide +kernel)⟩
theorem lw_p15 : lw_okq (⟨"MillSails", "asLeaf", "(I)I"⟩, 14) := ⟨⟨by decide +kernel, by decide +kernel⟩, List.mem_of_getElem? (i := 11) (by decide +kernel), List.mem_of_getElem? (i := 550) (by decide +kernel), List.mem_of_getElem? (i := 551) (by decide +kernel)⟩
def lw_privs_1 : List (MethodName × Nat) := [(⟨"MillSails", "beginAnew", "()V"⟩, 14), (⟨"MillSails", "kindNow", "(I)I"⟩, 14), (⟨"MillSails", "struck", "(III)I"⟩, 14), (⟨"MillSails", "remember", "()V"⟩, 14), (⟨"MillSails", "mayChange", "(II)Z"⟩, 14), (⟨"MillSails", "strokeHome", "(II)I"⟩, 14), (⟨"MillSails", "firstNearer", "(III)I"⟩, 14), (⟨"MillSails", "inOne", "(II)I"⟩, 14), (⟨"MillSails", "allLay", "(II)Z"⟩, 14), (⟨"MillSails", "leastStrokes", "(I)I"⟩, 14), (⟨"MillSails", "homeIfChanged", "(I)I"⟩, 14), (⟨"MillSails", "asBoard", "(II)I"⟩, 14), (⟨"MillSails", "asCell", "(I)I"⟩, 14), (⟨"MillSails", "asPond", "(I)I"⟩, 14), (⟨"MillSails", "asMill", "(II)I"⟩, 14), (⟨"MillSails", "asLeaf", "(I)I"⟩, 14)]
theorem lw_r1 : ∀ q ∈ lw_privs_1, lw_okq q := List.forall_mem_cons.mpr ⟨lw_p0, List.forall_mem_cons.mpr ⟨lw_p1, List.forall_mem_cons.mpr ⟨lw_p2, List.forall_mem_cons.mpr ⟨lw_p3, List.forall_mem_cons.mpr ⟨lw_p4, List.forall_mem_cons.mpr ⟨lw_p5, List.forall_mem_cons.mpr ⟨lw_p6, List.forall_mem_cons.mpr ⟨lw_p7, List.forall_mem_cons.mpr ⟨lw_p8, List.forall_mem_cons.mpr ⟨lw_p9, List.forall_mem_cons.mpr ⟨lw_p10, List.forall_mem_cons.mpr ⟨lw_p11, List.forall_mem_cons.mpr ⟨lw_p12, List.forall_mem_cons.mpr ⟨lw_p13, List.forall_mem_cons.mpr ⟨lw_p14, List.forall_mem_cons.mpr ⟨lw_p15, fun _ h => absurd h List.not_mem_nil⟩⟩⟩⟩⟩⟩⟩⟩⟩⟩⟩⟩⟩⟩⟩⟩
theorem lw_p16 : lw_okq (⟨"MillSails", "asPipe", "(I)I"⟩, 14) := ⟨⟨by decide +kernel, by decide +kernel⟩, List.mem_of_getElem? (i := 11) (by decide +kernel), List.mem_of_getElem? (i := 555) (by decide +kernel), List.mem_of_getElem? (i := 556) (by decide +kernel)⟩
theorem lw_p17 : lw_okq (⟨"MillSailsModel", "next", "()V"⟩, 33) := ⟨⟨by decide +kernel, by decide +kernel⟩, List.mem_of_getElem? (i := 580) (by decide +kernel), List.mem_of_getElem? (i := 701) (by decide +kernel), List.mem_of_getElem? (i := 702) (by decide +kernel)⟩
theorem lw_p18 : lw_okq (⟨"MillSailsModel", "letterAt", "(I)I"⟩, 33) := ⟨⟨by decide +kernel, by decide +kernel⟩, List.mem_of_getElem? (i := 580) (by decide +kernel), List.mem_of_getElem? (i := 705) (by decide +kernel), List.mem_of_getElem? (i := 706) (by decide +kernel)⟩
theorem lw_p19 : lw_okq (⟨"MillSailsModel", "readItem", "()V"⟩, 33) := ⟨⟨by decide +kernel, by decide +kernel⟩, List.mem_of_getElem? (i := 580) (by decide +kernel), List.mem_of_getElem? (i := 712) (by decide +kernel), List.mem_of_getElem? (i := 713) (by decide +kernel)⟩
theorem lw_p20 : lw_okq (⟨"MillSailsModel", "mayBegin", "(I)Z"⟩, 33) := ⟨⟨by decide +kernel, by decide +kernel⟩, List.mem_of_getElem? (i := 580) (by decide +kernel), List.mem_of_getElem? (i := 716) (by decide +kernel), List.mem_of_getElem? (i := 717) (by decide +kernel)⟩
theorem lw_p21 : lw_okq (⟨"MillSailsModel", "takes", "(II)I"⟩, 33) := ⟨⟨by decide +kernel, by decide +kernel⟩, List.mem_of_getElem? (i := 580) (by decide +kernel), List.mem_of_getElem? (i := 720) (by decide +kernel), List.mem_of_getElem? (i := 721) (by decide +kernel)⟩
theorem lw_p22 : lw_okq (⟨"MillSailsModel", "readRow", "()V"⟩, 33) := ⟨⟨by decide +kernel, by decide +kernel⟩, List.mem_of_getElem? (i := 580) (by decide +kernel), List.mem_of_getElem? (i := 724) (by decide +kernel), List.mem_of_getElem? (i := 725) (by decide +kernel)⟩
theorem lw_p23 : lw_okq (⟨"MillSailsModel", "readTee", "()V"⟩, 33) := ⟨⟨by decide +kernel, by decide +kernel⟩, List.mem_of_getElem? (i := 580) (by decide +kernel), List.mem_of_getElem? (i := 731) (by decide +kernel), List.mem_of_getElem? (i := 732) (by decide +kernel)⟩
theorem lw_p24 : lw_okq (⟨"MillSailsModel", "settles", "()V"⟩, 33) := ⟨⟨by decide +kernel, by decide +kernel⟩, List.mem_of_getElem? (i := 580) (by decide +kernel), List.mem_of_getElem? (i := 735) (by decide +kernel), List.mem_of_getElem? (i := 736) (by decide +kernel)⟩
theorem lw_p25 : lw_okq (⟨"MillSailsModel", "isCell", "(II)Z"⟩, 33) := ⟨⟨by decide +kernel, by decide +kernel⟩, List.mem_of_getElem? (i := 580) (by decide +kernel), List.mem_of_getElem? (i := 743) (by decide +kernel), List.mem_of_getElem? (i := 744) (by decide +kernel)⟩
theorem lw_p26 : lw_okq (⟨"MillSailsModel", "leader", "()I"⟩, 33) := ⟨⟨by decide +kernel, by decide +kernel⟩, List.mem_of_getElem? (i := 580) (by decide +kernel), List.mem_of_getElem? (i := 758) (by decide +kernel), List.mem_of_getElem? (i := 759) (by decide +kernel)⟩
theorem lw_p27 : lw_okq (⟨"MillSailsModel", "isOver", "()Z"⟩, 33) := ⟨⟨by decide +kernel, by decide +kernel⟩, List.mem_of_getElem? (i := 580) (by decide +kernel), List.mem_of_getElem? (i := 769) (by decide +kernel), List.mem_of_getElem? (i := 770) (by decide +kernel)⟩
theorem lw_p28 : lw_okq (⟨"MillSailsModel", "rolls", "(IIII)I"⟩, 33) := ⟨⟨by decide +kernel, by decide +kernel⟩, List.mem_of_getElem? (i := 580) (by decide +kernel), List.mem_of_getElem? (i := 773) (by decide +kernel), List.mem_of_getElem? (i := 774) (by decide +kernel)⟩
theorem lw_p29 : lw_okq (⟨"MillSailsModel", "remembers", "()V"⟩, 33) := ⟨⟨by decide +kernel, by decide +kernel⟩, List.mem_of_getElem? (i := 580) (by decide +kernel), List.mem_of_getElem? (i := 778) (by decide +kernel), List.mem_of_getElem? (i := 779) (by decide +kernel)⟩
theorem lw_p30 : lw_okq (⟨"MillSailsModel", "ends", "(I)V"⟩, 33) := ⟨⟨by decide +kernel, by decide +kernel⟩, List.mem_of_getElem? (i := 580) (by decide +kernel), List.mem_of_getElem? (i := 785) (by decide +kernel), List.mem_of_getElem? (i := 786) (by decide +kernel)⟩
theorem lw_p31 : lw_okq (⟨"MillSailsModel", "mayBoard", "(I)Z"⟩, 33) := ⟨⟨by decide +kernel, by decide +kernel⟩, List.mem_of_getElem? (i := 580) (by decide +kernel), List.mem_of_getElem? (i := 797) (by decide +kernel), List.mem_of_getElem? (i := 798) (by decide +kernel)⟩
def lw_privs_2 : List (MethodName × Nat) := [(⟨"MillSails", "asPipe", "(I)I"⟩, 14), (⟨"MillSailsModel", "next", "()V"⟩, 33), (⟨"MillSailsModel", "letterAt", "(I)I"⟩, 33), (⟨"MillSailsModel", "readItem", "()V"⟩, 33), (⟨"MillSailsModel", "mayBegin", "(I)Z"⟩, 33), (⟨"MillSailsModel", "takes", "(II)I"⟩, 33), (⟨"MillSailsModel", "readRow", "()V"⟩, 33), (⟨"MillSailsModel", "readTee", "()V"⟩, 33), (⟨"MillSailsModel", "settles", "()V"⟩, 33), (⟨"MillSailsModel", "isCell", "(II)Z"⟩, 33), (⟨"MillSailsModel", "leader", "()I"⟩, 33), (⟨"MillSailsModel", "isOver", "()Z"⟩, 33), (⟨"MillSailsModel", "rolls", "(IIII)I"⟩, 33), (⟨"MillSailsModel", "remembers", "()V"⟩, 33), (⟨"MillSailsModel", "ends", "(I)V"⟩, 33), (⟨"MillSailsModel", "mayBoard", "(I)Z"⟩, 33)]
theorem lw_r2 : ∀ q ∈ lw_privs_2, lw_okq q := List.forall_mem_cons.mpr ⟨lw_p16, List.forall_mem_cons.mpr ⟨lw_p17, List.forall_mem_cons.mpr ⟨lw_p18, List.forall_mem_cons.mpr ⟨lw_p19, List.forall_mem_cons.mpr ⟨lw_p20, List.forall_mem_cons.mpr ⟨lw_p21, List.forall_mem_cons.mpr ⟨lw_p22, List.forall_mem_cons.mpr ⟨lw_p23, List.forall_mem_cons.mpr ⟨lw_p24, List.forall_mem_cons.mpr ⟨lw_p25, List.forall_mem_cons.mpr ⟨lw_p26, List.forall_mem_cons.mpr ⟨lw_p27, List.forall_mem_cons.mpr ⟨lw_p28, List.forall_mem_cons.mpr ⟨lw_p29, List.forall_mem_cons.mpr ⟨lw_p30, List.forall_mem_cons.mpr ⟨lw_p31, fun _ h => absurd h List.not_mem_nil⟩⟩⟩⟩⟩⟩⟩⟩⟩⟩⟩⟩⟩⟩⟩⟩
theorem lw_p32 : lw_okq (⟨"MillSailsModel", "findHome", "()V"⟩, 33) := ⟨⟨by decide +kernel, by decide +kernel⟩, List.mem_of_getElem? (i := 580) (by decide +kernel), List.mem_of_getElem? (i := 817) (by decide +kernel), List.mem_of_getElem? (i := 818) (by decide +kernel)⟩
theorem lw_p33 : lw_okq (⟨"MillSailsModel", "mayLie", "(I)Z"⟩, 33) := ⟨⟨by decide +kernel, by decide +kernel⟩, List.mem_of_getElem? (i := 580) (by decide +kernel), List.mem_of_getElem? (i := 821) (by decide +kernel), List.mem_of_getElem? (i := 822) (by decide +kernel)⟩
theorem lw_p34 : lw_okq (⟨"MillSailsModel", "isNearer", "(II)Z"⟩, 33) := ⟨⟨by decide +kernel, by decide +kernel⟩, List.mem_of_getElem? (i := 580) (by decide +kernel), List.mem_of_getElem? (i := 825) (by decide +kernel), List.mem_of_getElem? (i := 826) (by decide +kernel)⟩
theorem lw_p35 : lw_okq (⟨"MillSailsModel", "homeFrom", "(I)I"⟩, 33) := ⟨⟨by decide +kernel, by decide +kernel⟩, List.mem_of_getElem? (i := 580) (by decide +kernel), List.mem_of_getElem? (i := 829) (by decide +kernel), List.mem_of_getElem? (i := 830) (by decide +kernel)⟩
theorem lw_p36 : lw_okq (⟨"MillSailsModel", "firstHome", "(II)I"⟩, 33) := ⟨⟨by decide +kernel, by decide +kernel⟩, List.mem_of_getElem? (i := 580) (by decide +kernel), List.mem_of_getElem? (i := 833) (by decide +kernel), List.mem_of_getElem? (i := 834) (by decide +kernel)⟩
theorem lw_p37 : lw_okq (⟨"MillSailsModel", "isInBy", "(II)I"⟩, 33) := ⟨⟨by decide +kernel, by decide +kernel⟩, List.mem_of_getElem? (i := 580) (by decide +kernel), List.mem_of_getElem? (i := 848) (by decide +kernel), List.mem_of_getElem? (i := 849) (by decide +kernel)⟩
theorem lw_p38 : lw_okq (⟨"MillSailsModel", "homeWith", "(II)I"⟩, 33) := ⟨⟨by decide +kernel, by decide +kernel⟩, List.mem_of_getElem? (i := 580) (by decide +kernel), List.mem_of_getElem? (i := 872) (by decide +kernel), List.mem_of_getElem? (i := 873) (by decide +kernel)⟩
theorem lw_p39 : lw_okq (⟨"MillSailsModel", "rateOf", "(III)I"⟩, 33) := ⟨⟨by decide +kernel, by decide +kernel⟩, List.mem_of_getElem? (i := 580) (by decide +kernel), List.mem_of_getElem? (i := 880) (by decide +kernel), List.mem_of_getElem? (i := 881) (by decide +kernel)⟩
def lw_privs_3 : List (MethodName × Nat) := [(⟨"MillSailsModel", "findHome", "()V"⟩, 33), (⟨"MillSailsModel", "mayLie", "(I)Z"⟩, 33), (⟨"MillSailsModel", "isNearer", "(II)Z"⟩, 33), (⟨"MillSailsModel", "homeFrom", "(I)I"⟩, 33), (⟨"MillSailsModel", "firstHome", "(II)I"⟩, 33), (⟨"MillSailsModel", "isInBy", "(II)I"⟩, 33), (⟨"MillSailsModel", "homeWith", "(II)I"⟩, 33), (⟨"MillSailsModel", "rateOf", "(III)I"⟩, 33)]
theorem lw_r3 : ∀ q ∈ lw_privs_3, lw_okq q := List.forall_mem_cons.mpr ⟨lw_p32, List.forall_mem_cons.mpr ⟨lw_p33, List.forall_mem_cons.mpr ⟨lw_p34, List.forall_mem_cons.mpr ⟨lw_p35, List.forall_mem_cons.mpr ⟨lw_p36, List.forall_mem_cons.mpr ⟨lw_p37, List.forall_mem_cons.mpr ⟨lw_p38, List.forall_mem_cons.mpr ⟨lw_p39, fun _ h => absurd h List.not_mem_nil⟩⟩⟩⟩⟩⟩⟩⟩
def lw_privs : List (MethodName × Nat) := lw_privs_1 ++ (lw_privs_2 ++ (lw_privs_3))
def lw_tbl : List Cond := k2_sels lw_privs ++ tables_1
theorem lw_privs_ok : ∀ q ∈ lw_privs, lw_okq q := by
  show ∀ q ∈ lw_privs_1 ++ (lw_privs_2 ++ (lw_privs_3)), lw_okq q
  exact List.forall_mem_append.mpr ⟨lw_r1, List.forall_mem_append.mpr ⟨lw_r2, lw_r3⟩⟩
-- ===== end of PART A; then your names; then what follows =====
end
section
def RX0 : String := "MillSails$Lawn"
def TX0 : u_T := fun k => match k with
  | 0 => ("MillSails$Lawn", "wide", "I", false)
  | 1 => ("MillSails$Lawn", "rows", "I", false)
  | 2 => ("MillSails$Lawn", "turn", "I", false)
  | 3 => ("MillSails$Lawn", "open", "I", false)
  | 4 => ("MillSails$Lawn", "players", "I", false)
  | 5 => ("MillSails$Lawn", "tee", "I", false)
  | 6 => ("MillSails$Lawn", "hasHole", "Z", false)
  | 7 => ("MillSails$Lawn", "planks", "J", false)
  | _ => ("MillSails$Lawn", "ground", "[I", true)
def tyX0 : Nat → FieldType := fun k => match k with
  | 0 => .int
  | 1 => .int
  | 2 => .int
  | 3 => .int
  | 4 => .int
  | 5 => .int
  | 6 => .boolean
  | 7 => .long
  | _ => .array .int
abbrev wsX00 : List Cond := u_ws RX0 TX0 9
theorem nmX0 : ∀ a, a < 9 → ∀ b, b < 9 → a ≠ b → (TX0 a).2.1 ≠ (TX0 b).2.1 := by decide +kernel
theorem tyX0_ok : ∀ k, k < 9 → parseFieldDescriptor (TX0 k).2.2.1 = some (tyX0 k) := by decide +kernel
abbrev cX0_init : ByteArray := prog_2_method_1_code
def yX0_init : MethodName := ⟨RX0, "<init>", "()V"⟩
abbrev cX0_blank : ByteArray := prog_2_method_2_code
def yX0_blank : MethodName := ⟨RX0, "blank", "()V"⟩
abbrev cX0_placeOf : ByteArray := prog_2_method_3_code
def yX0_placeOf : MethodName := ⟨RX0, "placeOf", "(II)I"⟩
abbrev cX0_isOn : ByteArray := prog_2_method_4_code
def yX0_isOn : MethodName := ⟨RX0, "isOn", "(I)Z"⟩
abbrev cX0_kindOf : ByteArray := prog_2_method_5_code
def yX0_kindOf : MethodName := ⟨RX0, "kindOf", "(I)I"⟩
abbrev cX0_beside : ByteArray := prog_2_method_6_code
def yX0_beside : MethodName := ⟨RX0, "beside", "(II)I"⟩
abbrev cX0_leftOver : ByteArray := prog_2_method_7_code
def yX0_leftOver : MethodName := ⟨RX0, "leftOver", "(I)I"⟩
abbrev cX0_isOpen : ByteArray := prog_2_method_8_code
def yX0_isOpen : MethodName := ⟨RX0, "isOpen", "(I)Z"⟩
abbrev cX0_put : ByteArray := prog_2_method_9_code
def yX0_put : MethodName := ⟨RX0, "put", "(II)Z"⟩
abbrev cX0_mayBeTee : ByteArray := prog_2_method_10_code
def yX0_mayBeTee : MethodName := ⟨RX0, "mayBeTee", "(I)Z"⟩
def RX1 : String := "MillSails$Play"
def TX1 : u_T := fun k => match k with
  | 0 => ("MillSails$Play", "tick", "I", false)
  | 1 => ("MillSails$Play", "ball", "I", false)
  | 2 => ("MillSails$Play", "strokes", "I", false)
  | 3 => ("MillSails$Play", "on", "I", false)
  | 4 => ("MillSails$Play", "planks", "J", false)
  | _ => ("MillSails$Play", "scores", "[I", true)
def tyX1 : Nat → FieldType := fun k => match k with
  | 0 => .int
  | 1 => .int
  | 2 => .int
  | 3 => .int
  | 4 => .long
  | _ => .array .int
abbrev wsX10 : List Cond := u_ws RX1 TX1 6
theorem nmX1 : ∀ a, a < 6 → ∀ b, b < 6 → a ≠ b → (TX1 a).2.1 ≠ (TX1 b).2.1 := by decide +kernel
theorem tyX1_ok : ∀ k, k < 6 → parseFieldDescriptor (TX1 k).2.2.1 = some (tyX1 k) := by decide +kernel
abbrev cX1_init : ByteArray := prog_3_method_1_code
def yX1_init : MethodName := ⟨RX1, "<init>", "()V"⟩
abbrev cX1_begin : ByteArray := prog_3_method_2_code
def yX1_begin : MethodName := ⟨RX1, "begin", "(LMillSails$Lawn;)V"⟩
abbrev cX1_copyFrom : ByteArray := prog_3_method_3_code
def yX1_copyFrom : MethodName := ⟨RX1, "copyFrom", "(LMillSails$Play;)V"⟩
abbrev cX1_hasPlank : ByteArray := prog_3_method_4_code
def yX1_hasPlank : MethodName := ⟨RX1, "hasPlank", "(I)Z"⟩
abbrev cX1_scoreOf : ByteArray := prog_3_method_5_code
def yX1_scoreOf : MethodName := ⟨RX1, "scoreOf", "(I)I"⟩
abbrev cX1_leader : ByteArray := prog_3_method_6_code
def yX1_leader : MethodName := ⟨RX1, "leader", "(I)I"⟩
abbrev cX1_finish : ByteArray := prog_3_method_7_code
def yX1_finish : MethodName := ⟨RX1, "finish", "(ILMillSails$Lawn;)V"⟩
def RX2 : String := "MillSails$Reach"
def TX2 : u_T := fun k => match k with
  | 0 => ("MillSails$Reach", "across", "[J", true)
  | 1 => ("MillSails$Reach", "upright", "[J", true)
  | 2 => ("MillSails$Reach", "far", "[I", true)
  | _ => ("MillSails$Reach", "ball", "LMillSails$Roll;", true)
def tyX2 : Nat → FieldType := fun k => match k with
  | 0 => .array .long
  | 1 => .array .long
  | 2 => .array .int
  | _ => .object "MillSails$Roll"
abbrev wsX20 : List Cond := u_ws RX2 TX2 4
theorem nmX2 : ∀ a, a < 4 → ∀ b, b < 4 → a ≠ b → (TX2 a).2.1 ≠ (TX2 b).2.1 := by decide +kernel
theorem tyX2_ok : ∀ k, k < 4 → parseFieldDescriptor (TX2 k).2.2.1 = some (tyX2 k) := by decide +kernel
abbrev cX2_init : ByteArray := prog_4_method_1_code
def yX2_init : MethodName := ⟨RX2, "<init>", "()V"⟩
abbrev cX2_survey : ByteArray := prog_4_method_2_code
def yX2_survey : MethodName := ⟨RX2, "survey", "(LMillSails$Lawn;J)V"⟩
abbrev cX2_surveyBeside : ByteArray := prog_4_method_3_code
def yX2_surveyBeside : MethodName := ⟨RX2, "surveyBeside", "(LMillSails$Lawn;JI)V"⟩
abbrev cX2_spread : ByteArray := prog_4_method_4_code
def yX2_spread : MethodName := ⟨RX2, "spread", "(LMillSails$Lawn;JII)J"⟩
abbrev cX2_course : ByteArray := prog_4_method_5_code
def yX2_course : MethodName := ⟨RX2, "course", "(LMillSails$Lawn;JIII)J"⟩
abbrev cX2_measure : ByteArray := prog_4_method_6_code
def yX2_measure : MethodName := ⟨RX2, "measure", "()V"⟩
abbrev cX2_fewest : ByteArray := prog_4_method_7_code
def yX2_fewest : MethodName := ⟨RX2, "fewest", "(I)I"⟩
def RX3 : String := "MillSails$Roll"
def TX3 : u_T := fun k => match k with
  | 0 => ("MillSails$Roll", "at", "I", false)
  | 1 => ("MillSails$Roll", "tick", "I", false)
  | 2 => ("MillSails$Roll", "way", "I", false)
  | _ => ("MillSails$Roll", "metMill", "Z", false)
def tyX3 : Nat → FieldType := fun k => match k with
  | 0 => .int
  | 1 => .int
  | 2 => .int
  | _ => .boolean
abbrev wsX30 : List Cond := u_ws RX3 TX3 4
theorem nmX3 : ∀ a, a < 4 → ∀ b, b < 4 → a ≠ b → (TX3 a).2.1 ≠ (TX3 b).2.1 := by decide +kernel
theorem tyX3_ok : ∀ k, k < 4 → parseFieldDescriptor (TX3 k).2.2.1 = some (tyX3 k) := by decide +kernel
abbrev cX3_init : ByteArray := prog_5_method_1_code
def yX3_init : MethodName := ⟨RX3, "<init>", "()V"⟩
abbrev cX3_start : ByteArray := prog_5_method_2_code
def yX3_start : MethodName := ⟨RX3, "start", "(III)V"⟩
abbrev cX3_advance : ByteArray := prog_5_method_3_code
def yX3_advance : MethodName := ⟨RX3, "advance", "(LMillSails$Lawn;J)I"⟩
abbrev cX3_strike : ByteArray := prog_5_method_4_code
def yX3_strike : MethodName := ⟨RX3, "strike", "(LMillSails$Lawn;JIIII)I"⟩
def RX4 : String := "MillSails$Text"
def TX4 : u_T := fun k => match k with
  | 0 => ("MillSails$Text", "letters", "[C", true)
  | 1 => ("MillSails$Text", "length", "I", false)
  | 2 => ("MillSails$Text", "behind", "I", false)
  | 3 => ("MillSails$Text", "start", "I", false)
  | 4 => ("MillSails$Text", "token", "I", false)
  | 5 => ("MillSails$Text", "value", "I", false)
  | 6 => ("MillSails$Text", "items", "I", false)
  | 7 => ("MillSails$Text", "sailsTold", "Z", false)
  | _ => ("MillSails$Text", "playersTold", "Z", false)
def tyX4 : Nat → FieldType := fun k => match k with
  | 0 => .array .char
  | 1 => .int
  | 2 => .int
  | 3 => .int
  | 4 => .int
  | 5 => .int
  | 6 => .int
  | 7 => .boolean
  | _ => .boolean
abbrev wsX40 : List Cond := u_ws RX4 TX4 9
theorem nmX4 : ∀ a, a < 9 → ∀ b, b < 9 → a ≠ b → (TX4 a).2.1 ≠ (TX4 b).2.1 := by decide +kernel
theorem tyX4_ok : ∀ k, k < 9 → parseFieldDescriptor (TX4 k).2.2.1 = some (tyX4 k) := by decide +kernel
abbrev cX4_init : ByteArray := prog_6_method_1_code
def yX4_init : MethodName := ⟨RX4, "<init>", "()V"⟩
abbrev cX4_add : ByteArray := prog_6_method_2_code
def yX4_add : MethodName := ⟨RX4, "add", "(C)Z"⟩
abbrev cX4_tell : ByteArray := prog_6_method_3_code
def yX4_tell : MethodName := ⟨RX4, "tell", "(LMillSails$Lawn;)I"⟩
abbrev cX4_item : ByteArray := prog_6_method_4_code
def yX4_item : MethodName := ⟨RX4, "item", "(LMillSails$Lawn;)Z"⟩
abbrev cX4_width : ByteArray := prog_6_method_5_code
def yX4_width : MethodName := ⟨RX4, "width", "(LMillSails$Lawn;)Z"⟩
abbrev cX4_row : ByteArray := prog_6_method_6_code
def yX4_row : MethodName := ⟨RX4, "row", "(LMillSails$Lawn;)Z"⟩
abbrev cX4_teePlace : ByteArray := prog_6_method_7_code
def yX4_teePlace : MethodName := ⟨RX4, "teePlace", "(LMillSails$Lawn;)Z"⟩
abbrev cX4_sails : ByteArray := prog_6_method_8_code
def yX4_sails : MethodName := ⟨RX4, "sails", "(LMillSails$Lawn;)Z"⟩
abbrev cX4_players : ByteArray := prog_6_method_9_code
def yX4_players : MethodName := ⟨RX4, "players", "(LMillSails$Lawn;)Z"⟩
abbrev cX4_number : ByteArray := prog_6_method_10_code
def yX4_number : MethodName := ⟨RX4, "number", "(II)Z"⟩
abbrev cX4_ends : ByteArray := prog_6_method_11_code
def yX4_ends : MethodName := ⟨RX4, "ends", "()Z"⟩
abbrev cX4_read : ByteArray := prog_6_method_12_code
def yX4_read : MethodName := ⟨RX4, "read", "()V"⟩
abbrev cX4_isDigit : ByteArray := prog_6_method_13_code
def yX4_isDigit : MethodName := ⟨RX4, "isDigit", "(C)Z"⟩
def RX5 : String := "MillSails"
def TX5 : u_T := fun k => match k with
  | 0 => ("MillSails", "text", "LMillSails$Text;", true)
  | 1 => ("MillSails", "told", "LMillSails$Lawn;", false)
  | 2 => ("MillSails", "draft", "LMillSails$Lawn;", false)
  | 3 => ("MillSails", "play", "LMillSails$Play;", true)
  | 4 => ("MillSails", "past", "[LMillSails$Play;", true)
  | 5 => ("MillSails", "pastNext", "I", false)
  | 6 => ("MillSails", "pastCount", "I", false)
  | 7 => ("MillSails", "images", "[LMillSails$Play;", true)
  | 8 => ("MillSails", "kept", "[Z", true)
  | 9 => ("MillSails", "lain", "[I", true)
  | 10 => ("MillSails", "lainCount", "I", false)
  | 11 => ("MillSails", "roll", "LMillSails$Roll;", true)
  | 12 => ("MillSails", "reach", "LMillSails$Reach;", true)
  | _ => ("MillSails", "traced", "J", false)
def tyX5 : Nat → FieldType := fun k => match k with
  | 0 => .object "MillSails$Text"
  | 1 => .object "MillSails$Lawn"
  | 2 => .object "MillSails$Lawn"
  | 3 => .object "MillSails$Play"
  | 4 => .array (.object "MillSails$Play")
  | 5 => .int
  | 6 => .int
  | 7 => .array (.object "MillSails$Play")
  | 8 => .array .boolean
  | 9 => .array .int
  | 10 => .int
  | 11 => .object "MillSails$Roll"
  | 12 => .object "MillSails$Reach"
  | _ => .long
abbrev wsX50 : List Cond := u_ws RX5 TX5 14
theorem nmX5 : ∀ a, a < 14 → ∀ b, b < 14 → a ≠ b → (TX5 a).2.1 ≠ (TX5 b).2.1 := by decide +kernel
theorem tyX5_ok : ∀ k, k < 14 → parseFieldDescriptor (TX5 k).2.2.1 = some (tyX5 k) := by decide +kernel
abbrev cX5_init : ByteArray := prog_1_method_1_code
def yX5_init : MethodName := ⟨RX5, "<init>", "()V"⟩
abbrev cX5_type : ByteArray := prog_1_method_2_code
def yX5_type : MethodName := ⟨RX5, "type", "(I)I"⟩
abbrev cX5_clear : ByteArray := prog_1_method_3_code
def yX5_clear : MethodName := ⟨RX5, "clear", "()I"⟩
abbrev cX5_lawn : ByteArray := prog_1_method_4_code
def yX5_lawn : MethodName := ⟨RX5, "lawn", "()I"⟩
abbrev cX5_beginAnew : ByteArray := prog_1_method_5_code
def yX5_beginAnew : MethodName := ⟨RX5, "beginAnew", "()V"⟩
abbrev cX5_cell : ByteArray := prog_1_method_6_code
def yX5_cell : MethodName := ⟨RX5, "cell", "(II)I"⟩
abbrev cX5_kindNow : ByteArray := prog_1_method_7_code
def yX5_kindNow : MethodName := ⟨RX5, "kindNow", "(I)I"⟩
abbrev cX5_score : ByteArray := prog_1_method_8_code
def yX5_score : MethodName := ⟨RX5, "score", "(I)I"⟩
abbrev cX5_now : ByteArray := prog_1_method_9_code
def yX5_now : MethodName := ⟨RX5, "now", "(I)I"⟩
abbrev cX5_answerOf : ByteArray := prog_1_method_10_code
def yX5_answerOf : MethodName := ⟨RX5, "answerOf", "(I)I"⟩
abbrev cX5_strikes : ByteArray := prog_1_method_11_code
def yX5_strikes : MethodName := ⟨RX5, "strikes", "(II)I"⟩
abbrev cX5_isStroke : ByteArray := prog_1_method_12_code
def yX5_isStroke : MethodName := ⟨RX5, "isStroke", "(II)Z"⟩
abbrev cX5_struck : ByteArray := prog_1_method_13_code
def yX5_struck : MethodName := ⟨RX5, "struck", "(III)I"⟩
abbrev cX5_remember : ByteArray := prog_1_method_14_code
def yX5_remember : MethodName := ⟨RX5, "remember", "()V"⟩
abbrev cX5_waits : ByteArray := prog_1_method_15_code
def yX5_waits : MethodName := ⟨RX5, "waits", "(I)I"⟩
abbrev cX5_boards : ByteArray := prog_1_method_16_code
def yX5_boards : MethodName := ⟨RX5, "boards", "(III)I"⟩
abbrev cX5_mayChange : ByteArray := prog_1_method_17_code
def yX5_mayChange : MethodName := ⟨RX5, "mayChange", "(II)Z"⟩
abbrev cX5_undo : ByteArray := prog_1_method_18_code
def yX5_undo : MethodName := ⟨RX5, "undo", "()I"⟩
abbrev cX5_would : ByteArray := prog_1_method_19_code
def yX5_would : MethodName := ⟨RX5, "would", "(II)I"⟩
abbrev cX5_when : ByteArray := prog_1_method_20_code
def yX5_when : MethodName := ⟨RX5, "when", "(II)I"⟩
abbrev cX5_home : ByteArray := prog_1_method_21_code
def yX5_home : MethodName := ⟨RX5, "home", "(I)I"⟩
abbrev cX5_strokeHome : ByteArray := prog_1_method_22_code
def yX5_strokeHome : MethodName := ⟨RX5, "strokeHome", "(II)I"⟩
abbrev cX5_firstNearer : ByteArray := prog_1_method_23_code
def yX5_firstNearer : MethodName := ⟨RX5, "firstNearer", "(III)I"⟩
abbrev cX5_ones : ByteArray := prog_1_method_24_code
def yX5_ones : MethodName := ⟨RX5, "ones", "()I"⟩
abbrev cX5_odds : ByteArray := prog_1_method_25_code
def yX5_odds : MethodName := ⟨RX5, "odds", "(IIII)I"⟩
abbrev cX5_inOne : ByteArray := prog_1_method_26_code
def yX5_inOne : MethodName := ⟨RX5, "inOne", "(II)I"⟩
abbrev cX5_commonDivisor : ByteArray := prog_1_method_27_code
def yX5_commonDivisor : MethodName := ⟨RX5, "commonDivisor", "(I)I"⟩
abbrev cX5_lay : ByteArray := prog_1_method_28_code
def yX5_lay : MethodName := ⟨RX5, "lay", "(II)I"⟩
abbrev cX5_forget : ByteArray := prog_1_method_29_code
def yX5_forget : MethodName := ⟨RX5, "forget", "()I"⟩
abbrev cX5_which : ByteArray := prog_1_method_30_code
def yX5_which : MethodName := ⟨RX5, "which", "(I)I"⟩
abbrev cX5_allLay : ByteArray := prog_1_method_31_code
def yX5_allLay : MethodName := ⟨RX5, "allLay", "(II)Z"⟩
abbrev cX5_best : ByteArray := prog_1_method_32_code
def yX5_best : MethodName := ⟨RX5, "best", "()I"⟩
abbrev cX5_leastStrokes : ByteArray := prog_1_method_33_code
def yX5_leastStrokes : MethodName := ⟨RX5, "leastStrokes", "(I)I"⟩
abbrev cX5_board : ByteArray := prog_1_method_34_code
def yX5_board : MethodName := ⟨RX5, "board", "(I)I"⟩
abbrev cX5_homeIfChanged : ByteArray := prog_1_method_35_code
def yX5_homeIfChanged : MethodName := ⟨RX5, "homeIfChanged", "(I)I"⟩
abbrev cX5_rate : ByteArray := prog_1_method_36_code
def yX5_rate : MethodName := ⟨RX5, "rate", "(III)I"⟩
abbrev cX5_asCell : ByteArray := prog_1_method_37_code
def yX5_asCell : MethodName := ⟨RX5, "asCell", "(I)I"⟩
abbrev cX5_asBoard : ByteArray := prog_1_method_38_code
def yX5_asBoard : MethodName := ⟨RX5, "asBoard", "(II)I"⟩
abbrev cX5_asPond : ByteArray := prog_1_method_39_code
def yX5_asPond : MethodName := ⟨RX5, "asPond", "(I)I"⟩
abbrev cX5_asMill : ByteArray := prog_1_method_40_code
def yX5_asMill : MethodName := ⟨RX5, "asMill", "(II)I"⟩
abbrev cX5_asLeaf : ByteArray := prog_1_method_41_code
def yX5_asLeaf : MethodName := ⟨RX5, "asLeaf", "(I)I"⟩
abbrev cX5_asPipe : ByteArray := prog_1_method_42_code
def yX5_asPipe : MethodName := ⟨RX5, "asPipe", "(I)I"⟩
abbrev cX5_keep : ByteArray := prog_1_method_43_code
def yX5_keep : MethodName := ⟨RX5, "keep", "(I)I"⟩
abbrev cX5_back : ByteArray := prog_1_method_44_code
def yX5_back : MethodName := ⟨RX5, "back", "(I)I"⟩
abbrev cX5_count : ByteArray := prog_1_method_45_code
def yX5_count : MethodName := ⟨RX5, "count", "(I)I"⟩
abbrev cX5_trace : ByteArray := prog_1_method_46_code
def yX5_trace : MethodName := ⟨RX5, "trace", "()J"⟩
def RX6 : String := "MillSailsModel"
def TX6 : u_T := fun k => match k with
  | 0 => ("MillSailsModel", "wide", "I", false)
  | 1 => ("MillSailsModel", "rows", "I", false)
  | 2 => ("MillSailsModel", "turn", "I", false)
  | 3 => ("MillSailsModel", "open", "I", false)
  | 4 => ("MillSailsModel", "players", "I", false)
  | 5 => ("MillSailsModel", "tee", "I", false)
  | 6 => ("MillSailsModel", "st", "[I", true)
  | 7 => ("MillSailsModel", "was", "[I", true)
  | 8 => ("MillSailsModel", "known", "I", false)
  | 9 => ("MillSailsModel", "images", "[I", true)
  | 10 => ("MillSailsModel", "isKept", "[Z", true)
  | 11 => ("MillSailsModel", "layMany", "I", false)
  | 12 => ("MillSailsModel", "lay", "[I", true)
  | 13 => ("MillSailsModel", "trace", "J", false)
  | 14 => ("MillSailsModel", "text", "[I", true)
  | 15 => ("MillSailsModel", "texted", "I", false)
  | 16 => ("MillSailsModel", "cursor", "I", false)
  | 17 => ("MillSailsModel", "start", "I", false)
  | 18 => ("MillSailsModel", "token", "I", false)
  | 19 => ("MillSailsModel", "number", "I", false)
  | 20 => ("MillSailsModel", "isWrong", "Z", false)
  | 21 => ("MillSailsModel", "items", "I", false)
  | 22 => ("MillSailsModel", "saidWide", "I", false)
  | 23 => ("MillSailsModel", "saidRows", "I", false)
  | 24 => ("MillSailsModel", "saidTurn", "I", false)
  | 25 => ("MillSailsModel", "saidOpen", "I", false)
  | 26 => ("MillSailsModel", "saidPlayers", "I", false)
  | 27 => ("MillSailsModel", "saidTee", "I", false)
  | 28 => ("MillSailsModel", "isHoled", "Z", false)
  | 29 => ("MillSailsModel", "saidCell", "[I", true)
  | 30 => ("MillSailsModel", "ticks", "I", false)
  | 31 => ("MillSailsModel", "leads", "[I", true)
  | _ => ("MillSailsModel", "far", "[I", true)
def tyX6 : Nat → FieldType := fun k => match k with
  | 0 => .int
  | 1 => .int
  | 2 => .int
  | 3 => .int
  | 4 => .int
  | 5 => .int
  | 6 => .array .int
  | 7 => .array .int
  | 8 => .int
  | 9 => .array .int
  | 10 => .array .boolean
  | 11 => .int
  | 12 => .array .int
  | 13 => .long
  | 14 => .array .int
  | 15 => .int
  | 16 => .int
  | 17 => .int
  | 18 => .int
  | 19 => .int
  | 20 => .boolean
  | 21 => .int
  | 22 => .int
  | 23 => .int
  | 24 => .int
  | 25 => .int
  | 26 => .int
  | 27 => .int
  | 28 => .boolean
  | 29 => .array .int
  | 30 => .int
  | 31 => .array .int
  | _ => .array .int
abbrev wsX60 : List Cond := u_ws RX6 TX6 33
theorem nmX6 : ∀ a, a < 33 → ∀ b, b < 33 → a ≠ b → (TX6 a).2.1 ≠ (TX6 b).2.1 := by decide +kernel
theorem tyX6_ok : ∀ k, k < 33 → parseFieldDescriptor (TX6 k).2.2.1 = some (tyX6 k) := by decide +kernel
abbrev cX6_init : ByteArray := prog_8_method_1_code
def yX6_init : MethodName := ⟨RX6, "<init>", "()V"⟩
abbrev cX6_in : ByteArray := prog_8_method_3_code
def yX6_in : MethodName := ⟨RX6, "in", "(III)Z"⟩
abbrev cX6_isCell : ByteArray := prog_8_method_4_code
def yX6_isCell : MethodName := ⟨RX6, "isCell", "(II)Z"⟩
abbrev cX6_copy : ByteArray := prog_8_method_5_code
def yX6_copy : MethodName := ⟨RX6, "copy", "([II[II)V"⟩
abbrev cX6_placed : ByteArray := prog_8_method_6_code
def yX6_placed : MethodName := ⟨RX6, "placed", "(I)I"⟩
abbrev cX6_type : ByteArray := prog_8_method_7_code
def yX6_type : MethodName := ⟨RX6, "type", "(I)I"⟩
abbrev cX6_clear : ByteArray := prog_8_method_8_code
def yX6_clear : MethodName := ⟨RX6, "clear", "()I"⟩
abbrev cX6_letterAt : ByteArray := prog_8_method_9_code
def yX6_letterAt : MethodName := ⟨RX6, "letterAt", "(I)I"⟩
abbrev cX6_isFigure : ByteArray := prog_8_method_10_code
def yX6_isFigure : MethodName := ⟨RX6, "isFigure", "(I)Z"⟩
abbrev cX6_next : ByteArray := prog_8_method_11_code
def yX6_next : MethodName := ⟨RX6, "next", "()V"⟩
abbrev cX6_takes : ByteArray := prog_8_method_12_code
def yX6_takes : MethodName := ⟨RX6, "takes", "(II)I"⟩
abbrev cX6_kindOf : ByteArray := prog_8_method_13_code
def yX6_kindOf : MethodName := ⟨RX6, "kindOf", "(I)I"⟩
abbrev cX6_readRow : ByteArray := prog_8_method_14_code
def yX6_readRow : MethodName := ⟨RX6, "readRow", "()V"⟩
abbrev cX6_readTee : ByteArray := prog_8_method_15_code
def yX6_readTee : MethodName := ⟨RX6, "readTee", "()V"⟩
abbrev cX6_mayBegin : ByteArray := prog_8_method_16_code
def yX6_mayBegin : MethodName := ⟨RX6, "mayBegin", "(I)Z"⟩
abbrev cX6_readItem : ByteArray := prog_8_method_17_code
def yX6_readItem : MethodName := ⟨RX6, "readItem", "()V"⟩
abbrev cX6_lawn : ByteArray := prog_8_method_18_code
def yX6_lawn : MethodName := ⟨RX6, "lawn", "()I"⟩
abbrev cX6_settles : ByteArray := prog_8_method_19_code
def yX6_settles : MethodName := ⟨RX6, "settles", "()V"⟩
abbrev cX6_rolls : ByteArray := prog_8_method_20_code
def yX6_rolls : MethodName := ⟨RX6, "rolls", "(IIII)I"⟩
abbrev cX6_isStroke : ByteArray := prog_8_method_21_code
def yX6_isStroke : MethodName := ⟨RX6, "isStroke", "(II)Z"⟩
abbrev cX6_isOver : ByteArray := prog_8_method_22_code
def yX6_isOver : MethodName := ⟨RX6, "isOver", "()Z"⟩
abbrev cX6_cell : ByteArray := prog_8_method_23_code
def yX6_cell : MethodName := ⟨RX6, "cell", "(II)I"⟩
abbrev cX6_score : ByteArray := prog_8_method_24_code
def yX6_score : MethodName := ⟨RX6, "score", "(I)I"⟩
abbrev cX6_leader : ByteArray := prog_8_method_25_code
def yX6_leader : MethodName := ⟨RX6, "leader", "()I"⟩
abbrev cX6_now : ByteArray := prog_8_method_26_code
def yX6_now : MethodName := ⟨RX6, "now", "(I)I"⟩
abbrev cX6_remembers : ByteArray := prog_8_method_27_code
def yX6_remembers : MethodName := ⟨RX6, "remembers", "()V"⟩
abbrev cX6_ends : ByteArray := prog_8_method_28_code
def yX6_ends : MethodName := ⟨RX6, "ends", "(I)V"⟩
abbrev cX6_strikes : ByteArray := prog_8_method_29_code
def yX6_strikes : MethodName := ⟨RX6, "strikes", "(II)I"⟩
abbrev cX6_waits : ByteArray := prog_8_method_30_code
def yX6_waits : MethodName := ⟨RX6, "waits", "(I)I"⟩
abbrev cX6_mayBoard : ByteArray := prog_8_method_31_code
def yX6_mayBoard : MethodName := ⟨RX6, "mayBoard", "(I)Z"⟩
abbrev cX6_boards : ByteArray := prog_8_method_32_code
def yX6_boards : MethodName := ⟨RX6, "boards", "(III)I"⟩
abbrev cX6_undo : ByteArray := prog_8_method_33_code
def yX6_undo : MethodName := ⟨RX6, "undo", "()I"⟩
abbrev cX6_would : ByteArray := prog_8_method_34_code
def yX6_would : MethodName := ⟨RX6, "would", "(II)I"⟩
abbrev cX6_when : ByteArray := prog_8_method_35_code
def yX6_when : MethodName := ⟨RX6, "when", "(II)I"⟩
abbrev cX6_mayLie : ByteArray := prog_8_method_36_code
def yX6_mayLie : MethodName := ⟨RX6, "mayLie", "(I)Z"⟩
abbrev cX6_strokeAt : ByteArray := prog_8_method_37_code
def yX6_strokeAt : MethodName := ⟨RX6, "strokeAt", "(IIII)I"⟩
abbrev cX6_isNearer : ByteArray := prog_8_method_38_code
def yX6_isNearer : MethodName := ⟨RX6, "isNearer", "(II)Z"⟩
abbrev cX6_findHome : ByteArray := prog_8_method_39_code
def yX6_findHome : MethodName := ⟨RX6, "findHome", "()V"⟩
abbrev cX6_homeFrom : ByteArray := prog_8_method_40_code
def yX6_homeFrom : MethodName := ⟨RX6, "homeFrom", "(I)I"⟩
abbrev cX6_home : ByteArray := prog_8_method_41_code
def yX6_home : MethodName := ⟨RX6, "home", "(I)I"⟩
abbrev cX6_firstHome : ByteArray := prog_8_method_42_code
def yX6_firstHome : MethodName := ⟨RX6, "firstHome", "(II)I"⟩
abbrev cX6_ones : ByteArray := prog_8_method_43_code
def yX6_ones : MethodName := ⟨RX6, "ones", "()I"⟩
abbrev cX6_isInBy : ByteArray := prog_8_method_44_code
def yX6_isInBy : MethodName := ⟨RX6, "isInBy", "(II)I"⟩
abbrev cX6_odds : ByteArray := prog_8_method_45_code
def yX6_odds : MethodName := ⟨RX6, "odds", "(IIII)I"⟩
abbrev cX6_lay : ByteArray := prog_8_method_46_code
def yX6_lay : MethodName := ⟨RX6, "lay", "(II)I"⟩
abbrev cX6_forget : ByteArray := prog_8_method_47_code
def yX6_forget : MethodName := ⟨RX6, "forget", "()I"⟩
abbrev cX6_which : ByteArray := prog_8_method_48_code
def yX6_which : MethodName := ⟨RX6, "which", "(I)I"⟩
abbrev cX6_best : ByteArray := prog_8_method_49_code
def yX6_best : MethodName := ⟨RX6, "best", "()I"⟩
abbrev cX6_homeWith : ByteArray := prog_8_method_50_code
def yX6_homeWith : MethodName := ⟨RX6, "homeWith", "(II)I"⟩
abbrev cX6_board : ByteArray := prog_8_method_51_code
def yX6_board : MethodName := ⟨RX6, "board", "(I)I"⟩
abbrev cX6_rateOf : ByteArray := prog_8_method_52_code
def yX6_rateOf : MethodName := ⟨RX6, "rateOf", "(III)I"⟩
abbrev cX6_rate : ByteArray := prog_8_method_53_code
def yX6_rate : MethodName := ⟨RX6, "rate", "(III)I"⟩
abbrev cX6_keep : ByteArray := prog_8_method_54_code
def yX6_keep : MethodName := ⟨RX6, "keep", "(I)I"⟩
abbrev cX6_back : ByteArray := prog_8_method_55_code
def yX6_back : MethodName := ⟨RX6, "back", "(I)I"⟩
abbrev cX6_count : ByteArray := prog_8_method_56_code
def yX6_count : MethodName := ⟨RX6, "count", "(I)I"⟩
abbrev cX6_trace : ByteArray := prog_8_method_57_code
def yX6_trace : MethodName := ⟨RX6, "trace", "()J"⟩
def RJ13 : String := "java/lang/Long"
abbrev cJ13_bitCount_95d88 : ByteArray := prog_9_method_50_code
def yJ13_bitCount_95d88 : MethodName := ⟨RJ13, "bitCount", "(J)I"⟩
def RJ9 : String := "java/lang/Math"
abbrev cJ9_max_7cf53 : ByteArray := prog_10_method_65_code
def yJ9_max_7cf53 : MethodName := ⟨RJ9, "max", "(II)I"⟩
abbrev cJ9_min_7cf53 : ByteArray := prog_10_method_69_code
def yJ9_min_7cf53 : MethodName := ⟨RJ9, "min", "(II)I"⟩
def RL : String := "MillSailsLaw"
abbrev cL_law : ByteArray := code
def yL_law : MethodName := ⟨RL, "law", "([I)Z"⟩
abbrev vwCl : List vw_C := [(RX0, TX0, 9), (RX1, TX1, 6), (RX2, TX2, 4), (RX3, TX3, 4), (RX4, TX4, 9), (RX5, TX5, 14), (RX6, TX6, 33)]
end
section
/-! tables of the system, by program out of its listing: a method is (name, code, locals, what it answers, its class, frames, words, where its longs lie) -/
abbrev m_E : Type := MethodName × ByteArray × Nat × Option FieldType × Nat × Nat × Nat × List Nat
def mT_0 : List m_E := [(yX0_init, cX0_init, 1, none, 0, 1, 21, []), (yX0_blank, cX0_blank, 2, none, 0, 0, 0, []), (yX0_placeOf, cX0_placeOf, 3, (some .int), 0, 0, 0, []), (yX0_isOn, cX0_isOn, 2, (some .boolean), 0, 1, 22, []), (yX0_kindOf, cX0_kindOf, 2, (some .int), 0, 0, 0, []), (yX0_beside, cX0_beside, 5, (some .int), 0, 0, 0, []), (yX0_leftOver, cX0_leftOver, 2, (some .int), 0, 0, 0, []), (yX0_isOpen, cX0_isOpen, 2, (some .boolean), 0, 0, 0, []), (yX0_put, cX0_put, 5, (some .boolean), 0, 0, 0, []), (yX0_mayBeTee, cX0_mayBeTee, 2, (some .boolean), 0, 1, 21, []), (yX1_init, cX1_init, 1, none, 1, 1, 20, []), (yX1_begin, cX1_begin, 3, none, 1, 0, 0, []), (yX1_copyFrom, cX1_copyFrom, 3, none, 1, 0, 0, []), (yX1_hasPlank, cX1_hasPlank, 2, (some .boolean), 1, 0, 0, []), (yX1_scoreOf, cX1_scoreOf, 2, (some .int), 1, 0, 0, []), (yX1_leader, cX1_leader, 4, (some .int), 1, 1, 21, [])]
def mT_1 : List m_E := [(yX1_finish, cX1_finish, 4, none, 1, 0, 0, []), (yX2_init, cX2_init, 1, none, 2, 2, 40, []), (yX2_survey, cX2_survey, 5, none, 2, 4, 109, [2]), (yX2_surveyBeside, cX2_surveyBeside, 8, none, 2, 4, 109, [2]), (yX2_spread, cX2_spread, 10, (some .long), 2, 3, 80, [2, 7]), (yX2_course, cX2_course, 11, (some .long), 2, 2, 50, [2, 7]), (yX2_measure, cX2_measure, 7, none, 2, 0, 0, [1, 4]), (yX2_fewest, cX2_fewest, 2, (some .int), 2, 0, 0, []), (yX3_init, cX3_init, 1, none, 3, 1, 20, []), (yX3_start, cX3_start, 4, none, 3, 0, 0, []), (yX3_advance, cX3_advance, 7, (some .int), 3, 1, 24, [2]), (yX3_strike, cX3_strike, 10, (some .int), 3, 2, 50, [2]), (yX4_init, cX4_init, 1, none, 4, 1, 20, []), (yX4_add, cX4_add, 2, (some .boolean), 4, 0, 0, []), (yX4_tell, cX4_tell, 3, (some .int), 4, 5, 108, []), (yX4_item, cX4_item, 2, (some .boolean), 4, 4, 87, [])]
def mT_2 : List m_E := [(yX4_width, cX4_width, 2, (some .boolean), 4, 3, 65, []), (yX4_row, cX4_row, 3, (some .boolean), 4, 3, 63, []), (yX4_teePlace, cX4_teePlace, 3, (some .boolean), 4, 3, 65, []), (yX4_sails, cX4_sails, 2, (some .boolean), 4, 3, 65, []), (yX4_players, cX4_players, 2, (some .boolean), 4, 3, 65, []), (yX4_number, cX4_number, 3, (some .boolean), 4, 2, 43, []), (yX4_ends, cX4_ends, 1, (some .boolean), 4, 2, 43, []), (yX4_read, cX4_read, 3, none, 4, 1, 21, []), (yX4_isDigit, cX4_isDigit, 1, (some .boolean), 4, 0, 0, []), (yX5_init, cX5_init, 2, none, 5, 3, 60, []), (yX5_type, cX5_type, 2, (some .int), 5, 1, 21, []), (yX5_clear, cX5_clear, 2, (some .int), 5, 0, 0, []), (yX5_lawn, cX5_lawn, 3, (some .int), 5, 6, 130, []), (yX5_beginAnew, cX5_beginAnew, 2, none, 5, 1, 22, []), (yX5_cell, cX5_cell, 4, (some .int), 5, 2, 42, []), (yX5_kindNow, cX5_kindNow, 2, (some .int), 5, 1, 21, [])]
def mT_3 : List m_E := [(yX5_score, cX5_score, 2, (some .int), 5, 1, 21, []), (yX5_now, cX5_now, 2, (some .int), 5, 2, 44, []), (yX5_answerOf, cX5_answerOf, 1, (some .int), 5, 0, 0, []), (yX5_strikes, cX5_strikes, 4, (some .int), 5, 4, 102, []), (yX5_isStroke, cX5_isStroke, 2, (some .boolean), 5, 0, 0, []), (yX5_struck, cX5_struck, 4, (some .int), 5, 3, 79, []), (yX5_remember, cX5_remember, 1, none, 5, 1, 22, []), (yX5_waits, cX5_waits, 2, (some .int), 5, 2, 42, []), (yX5_boards, cX5_boards, 5, (some .int), 5, 3, 65, []), (yX5_mayChange, cX5_mayChange, 3, (some .boolean), 5, 2, 43, []), (yX5_undo, cX5_undo, 1, (some .int), 5, 1, 22, []), (yX5_would, cX5_would, 3, (some .int), 5, 4, 102, []), (yX5_when, cX5_when, 5, (some .int), 5, 4, 102, []), (yX5_home, cX5_home, 3, (some .int), 5, 5, 133, []), (yX5_strokeHome, cX5_strokeHome, 7, (some .int), 5, 4, 106, []), (yX5_firstNearer, cX5_firstNearer, 8, (some .int), 5, 3, 79, [])]
def mT_4 : List m_E := [(yX5_ones, cX5_ones, 3, (some .int), 5, 5, 133, []), (yX5_odds, cX5_odds, 7, (some .int), 5, 5, 124, []), (yX5_inOne, cX5_inOne, 3, (some .int), 5, 4, 102, []), (yX5_commonDivisor, cX5_commonDivisor, 2, (some .int), 5, 0, 0, []), (yX5_lay, cX5_lay, 5, (some .int), 5, 1, 22, []), (yX5_forget, cX5_forget, 2, (some .int), 5, 0, 0, []), (yX5_which, cX5_which, 6, (some .int), 5, 5, 126, []), (yX5_allLay, cX5_allLay, 5, (some .boolean), 5, 4, 102, []), (yX5_best, cX5_best, 4, (some .int), 5, 5, 133, []), (yX5_leastStrokes, cX5_leastStrokes, 2, (some .int), 5, 1, 21, []), (yX5_board, cX5_board, 6, (some .int), 5, 6, 158, []), (yX5_homeIfChanged, cX5_homeIfChanged, 3, (some .int), 5, 5, 136, []), (yX5_rate, cX5_rate, 4, (some .int), 5, 3, 65, []), (yX5_asCell, cX5_asCell, 2, (some .int), 5, 0, 0, []), (yX5_asBoard, cX5_asBoard, 3, (some .int), 5, 1, 21, []), (yX5_asPond, cX5_asPond, 2, (some .int), 5, 1, 21, [])]
def mT_5 : List m_E := [(yX5_asMill, cX5_asMill, 3, (some .int), 5, 2, 43, []), (yX5_asLeaf, cX5_asLeaf, 2, (some .int), 5, 2, 42, []), (yX5_asPipe, cX5_asPipe, 2, (some .int), 5, 1, 21, []), (yX5_keep, cX5_keep, 2, (some .int), 5, 1, 22, []), (yX5_back, cX5_back, 2, (some .int), 5, 1, 22, []), (yX5_count, cX5_count, 2, (some .int), 5, 1, 20, []), (yX5_trace, cX5_trace, 1, (some .long), 5, 0, 0, []), (yX6_init, cX6_init, 1, none, 6, 1, 20, []), (yX6_in, cX6_in, 3, (some .boolean), 6, 0, 0, []), (yX6_isCell, cX6_isCell, 3, (some .boolean), 6, 1, 22, []), (yX6_copy, cX6_copy, 5, none, 6, 0, 0, []), (yX6_placed, cX6_placed, 1, (some .int), 6, 0, 0, []), (yX6_type, cX6_type, 2, (some .int), 6, 1, 22, []), (yX6_clear, cX6_clear, 2, (some .int), 6, 0, 0, []), (yX6_letterAt, cX6_letterAt, 2, (some .int), 6, 0, 0, []), (yX6_isFigure, cX6_isFigure, 1, (some .boolean), 6, 1, 22, [])]
def mT_6 : List m_E := [(yX6_next, cX6_next, 2, none, 6, 2, 42, []), (yX6_takes, cX6_takes, 5, (some .int), 6, 3, 63, []), (yX6_kindOf, cX6_kindOf, 1, (some .int), 6, 0, 0, []), (yX6_readRow, cX6_readRow, 3, none, 6, 3, 63, []), (yX6_readTee, cX6_readTee, 3, none, 6, 4, 87, []), (yX6_mayBegin, cX6_mayBegin, 2, (some .boolean), 6, 0, 0, []), (yX6_readItem, cX6_readItem, 2, none, 6, 5, 109, []), (yX6_lawn, cX6_lawn, 1, (some .int), 6, 6, 130, []), (yX6_settles, cX6_settles, 2, none, 6, 0, 0, []), (yX6_rolls, cX6_rolls, 11, (some .int), 6, 2, 44, []), (yX6_isStroke, cX6_isStroke, 2, (some .boolean), 6, 1, 22, []), (yX6_isOver, cX6_isOver, 1, (some .boolean), 6, 0, 0, []), (yX6_cell, cX6_cell, 3, (some .int), 6, 2, 44, []), (yX6_score, cX6_score, 2, (some .int), 6, 1, 22, []), (yX6_leader, cX6_leader, 4, (some .int), 6, 0, 0, []), (yX6_now, cX6_now, 2, (some .int), 6, 1, 23, [])]
def mT_7 : List m_E := [(yX6_remembers, cX6_remembers, 2, none, 6, 1, 24, []), (yX6_ends, cX6_ends, 2, none, 6, 0, 0, []), (yX6_strikes, cX6_strikes, 4, (some .int), 6, 3, 74, []), (yX6_waits, cX6_waits, 2, (some .int), 6, 2, 45, []), (yX6_mayBoard, cX6_mayBoard, 2, (some .boolean), 6, 0, 0, []), (yX6_boards, cX6_boards, 7, (some .int), 6, 2, 45, []), (yX6_undo, cX6_undo, 1, (some .int), 6, 1, 24, []), (yX6_would, cX6_would, 3, (some .int), 6, 3, 74, []), (yX6_when, cX6_when, 5, (some .int), 6, 3, 74, []), (yX6_mayLie, cX6_mayLie, 2, (some .boolean), 6, 2, 44, []), (yX6_strokeAt, cX6_strokeAt, 4, (some .int), 6, 0, 0, []), (yX6_isNearer, cX6_isNearer, 5, (some .boolean), 6, 0, 0, []), (yX6_findHome, cX6_findHome, 4, none, 6, 3, 74, []), (yX6_homeFrom, cX6_homeFrom, 2, (some .int), 6, 0, 0, []), (yX6_home, cX6_home, 8, (some .int), 6, 4, 97, []), (yX6_firstHome, cX6_firstHome, 7, (some .int), 6, 2, 43, [])]
def mT_8 : List m_E := [(yX6_ones, cX6_ones, 3, (some .int), 6, 4, 97, []), (yX6_isInBy, cX6_isInBy, 4, (some .int), 6, 3, 74, []), (yX6_odds, cX6_odds, 9, (some .int), 6, 4, 97, []), (yX6_lay, cX6_lay, 4, (some .int), 6, 2, 44, []), (yX6_forget, cX6_forget, 2, (some .int), 6, 0, 0, []), (yX6_which, cX6_which, 10, (some .int), 6, 3, 74, []), (yX6_best, cX6_best, 6, (some .int), 6, 4, 97, []), (yX6_homeWith, cX6_homeWith, 5, (some .int), 6, 4, 97, []), (yX6_board, cX6_board, 8, (some .int), 6, 5, 121, []), (yX6_rateOf, cX6_rateOf, 5, (some .int), 6, 1, 20, []), (yX6_rate, cX6_rate, 4, (some .int), 6, 2, 44, []), (yX6_keep, cX6_keep, 2, (some .int), 6, 1, 24, []), (yX6_back, cX6_back, 2, (some .int), 6, 1, 24, []), (yX6_count, cX6_count, 2, (some .int), 6, 1, 20, []), (yX6_trace, cX6_trace, 1, (some .long), 6, 0, 0, []), (yJ13_bitCount_95d88, cJ13_bitCount_95d88, 2, (some .int), 8, 0, 0, [0])]
def mTX : List m_E := mT_0 ++ (mT_1 ++ (mT_2 ++ (mT_3 ++ (mT_4 ++ (mT_5 ++ (mT_6 ++ (mT_7 ++ (mT_8))))))))
def m_law : m_E := (yL_law, cL_law, 4, (some .boolean), 7, 7, 183, [])
def mT_M : List m_E := [(yJ9_max_7cf53, cJ9_max_7cf53, 2, (some .int), 9, 0, 0, []), (yJ9_min_7cf53, cJ9_min_7cf53, 2, (some .int), 9, 0, 0, [])]
def mT : List m_E := mTX ++ mT_M ++ [m_law]
def m_e (mi : Nat) : m_E := mT.getD mi m_law
def m_y (mi : Nat) : MethodName := (m_e mi).1
def m_cod (mi : Nat) : ByteArray := (m_e mi).2.1
def m_mxl (mi : Nat) : Nat := (m_e mi).2.2.1
def m_rty (mi : Nat) : Option FieldType := (m_e mi).2.2.2.1
def m_owi (mi : Nat) : Nat := (m_e mi).2.2.2.2.1
def m_rF (mi : Nat) : Nat := (m_e mi).2.2.2.2.2.1
def m_rL (mi : Nat) : Nat := (m_e mi).2.2.2.2.2.2.1
def m_lg (mi : Nat) : List Nat := (m_e mi).2.2.2.2.2.2.2
def m_ows : List String := [RX0, RX1, RX2, RX3, RX4, RX5, RX6, RL, RJ13, RJ9]
def m_own (mi : Nat) : String := m_ows.getD (m_owi mi) ""
def m_C (ci : Nat) : String := m_ows.getD ci ""
def m_N (ci : Nat) : Nat := ([9, 6, 4, 4, 9, 14, 33] : List Nat).getD ci 0
def m_Ts : List u_T := [TX0, TX1, TX2, TX3, TX4, TX5, TX6]
def m_T (ci : Nat) : u_T := m_Ts.getD ci TX0
def m_tys : List (Nat → FieldType) := [tyX0, tyX1, tyX2, tyX3, tyX4, tyX5, tyX6]
def m_ty (ci : Nat) : Nat → FieldType := m_tys.getD ci tyX0
def m_calls_0 : List (Nat × Nat × Nat × Nat × MethodName) := [(15, 1, 0, 0, yX0_blank), (49, 4, 0, 1, yX0_kindOf), (45, 2, 0, 2, yX0_placeOf)]
def m_calls_1 : List (Nat × Nat × Nat × Nat × MethodName) := [(38, 14, 0, 1, yX1_scoreOf)]
def m_calls_2 : List (Nat × Nat × Nat × Nat × MethodName) := [(24, 24, 3, 0, yX3_init), (29, 20, 0, 4, yX2_spread), (36, 3, 0, 1, yX0_isOn), (42, 4, 0, 1, yX0_kindOf), (50, 21, 0, 5, yX2_course), (58, 25, 0, 3, yX3_start), (62, 26, 0, 2, yX3_advance), (33, 22, 0, 0, yX2_measure)]
def m_calls_3 : List (Nat × Nat × Nat × Nat × MethodName) := [(39, 25, 0, 3, yX3_start), (43, 26, 0, 2, yX3_advance), (25, 5, 0, 2, yX0_beside), (31, 4, 0, 1, yX0_kindOf), (35, 7, 0, 1, yX0_isOpen), (47, 50, 4, 1, yX5_answerOf)]
def m_calls_4 : List (Nat × Nat × Nat × Nat × MethodName) := [(19, 1, 0, 0, yX0_blank), (37, 39, 0, 0, yX4_read), (104, 40, 1, 1, yX4_isDigit), (108, 145, 6, 2, yJ9_min_7cf53), (43, 31, 0, 1, yX4_item), (50, 32, 0, 1, yX4_width), (65, 37, 0, 2, yX4_number), (75, 38, 0, 0, yX4_ends), (53, 33, 0, 1, yX4_row), (85, 8, 0, 2, yX0_put), (56, 34, 0, 1, yX4_teePlace), (88, 2, 0, 2, yX0_placeOf), (92, 9, 0, 1, yX0_mayBeTee), (59, 35, 0, 1, yX4_sails), (62, 36, 0, 1, yX4_players)]
def m_calls_5 : List (Nat × Nat × Nat × Nat × MethodName) := [(11, 28, 3, 0, yX4_init), (18, 0, 2, 0, yX0_init), (28, 10, 3, 0, yX1_init), (50, 24, 3, 0, yX3_init), (57, 17, 3, 0, yX2_init), (62, 11, 0, 1, yX1_begin), (66, 29, 0, 1, yX4_add), (74, 30, 0, 1, yX4_tell), (78, 45, 0, 0, yX5_beginAnew), (87, 2, 0, 2, yX0_placeOf), (91, 47, 0, 1, yX5_kindNow), (95, 13, 0, 1, yX1_hasPlank), (99, 4, 0, 1, yX0_kindOf), (105, 14, 0, 1, yX1_scoreOf), (117, 50, 1, 1, yX5_answerOf), (123, 7, 0, 1, yX0_isOpen), (126, 15, 0, 1, yX1_leader), (129, 52, 1, 2, yX5_isStroke), (133, 53, 0, 3, yX5_struck), (158, 27, 0, 6, yX3_strike), (139, 54, 0, 0, yX5_remember), (165, 12, 0, 1, yX1_copyFrom), (145, 145, 6, 2, yJ9_min_7cf53), (150, 16, 0, 2, yX1_finish), (169, 57, 0, 2, yX5_mayChange), (178, 3, 0, 1, yX0_isOn), (172, 143, 1, 1, yJ13_bitCount_95d88), (187, 18, 0, 2, yX2_survey), (191, 23, 0, 1, yX2_fewest), (194, 62, 0, 2, yX5_strokeHome), (197, 63, 0, 3, yX5_firstNearer), (200, 66, 0, 2, yX5_inOne), (203, 144, 5, 2, yJ9_max_7cf53), (206, 67, 1, 1, yX5_commonDivisor), (209, 71, 0, 2, yX5_allLay), (212, 73, 0, 1, yX5_leastStrokes), (215, 75, 0, 1, yX5_homeIfChanged), (218, 19, 0, 3, yX2_surveyBeside), (222, 22, 0, 0, yX2_measure), (226, 78, 0, 2, yX5_asBoard), (241, 77, 0, 1, yX5_asCell), (229, 79, 0, 1, yX5_asPond), (232, 80, 0, 2, yX5_asMill), (235, 81, 0, 1, yX5_asLeaf), (238, 82, 0, 1, yX5_asPipe), (257, 6, 0, 1, yX0_leftOver)]
def m_calls_6 : List (Nat × Nat × Nat × Nat × MethodName) := [(51, 88, 1, 3, yX6_in), (85, 96, 0, 0, yX6_next), (64, 94, 0, 1, yX6_letterAt), (77, 95, 1, 1, yX6_isFigure), (128, 102, 0, 0, yX6_readItem), (116, 101, 0, 1, yX6_mayBegin), (100, 97, 0, 2, yX6_takes), (119, 99, 0, 0, yX6_readRow), (91, 98, 1, 1, yX6_kindOf), (122, 100, 0, 0, yX6_readTee), (131, 104, 0, 0, yX6_settles), (146, 89, 0, 2, yX6_isCell), (150, 91, 1, 1, yX6_placed), (153, 110, 0, 0, yX6_leader), (161, 106, 1, 2, yX6_isStroke), (164, 107, 0, 0, yX6_isOver), (168, 105, 0, 4, yX6_rolls), (173, 112, 0, 0, yX6_remembers), (157, 90, 1, 4, yX6_copy), (176, 113, 0, 1, yX6_ends), (180, 116, 0, 1, yX6_mayBoard), (189, 124, 0, 0, yX6_findHome), (183, 121, 0, 1, yX6_mayLie), (186, 123, 0, 2, yX6_isNearer), (192, 125, 0, 1, yX6_homeFrom), (195, 127, 0, 2, yX6_firstHome), (198, 122, 1, 4, yX6_strokeAt), (201, 129, 0, 2, yX6_isInBy), (204, 135, 0, 2, yX6_homeWith), (221, 137, 0, 3, yX6_rateOf)]
def m_calls_7 : List (Nat × Nat × Nat × Nat × MethodName) := [(9, 41, 2, 0, yX5_init), (13, 42, 0, 1, yX5_type), (18, 43, 0, 0, yX5_clear), (23, 44, 0, 0, yX5_lawn), (27, 46, 0, 2, yX5_cell), (32, 48, 0, 1, yX5_score), (36, 49, 0, 1, yX5_now), (40, 51, 0, 2, yX5_strikes), (44, 55, 0, 1, yX5_waits), (48, 56, 0, 3, yX5_boards), (53, 58, 0, 0, yX5_undo), (57, 59, 0, 2, yX5_would), (61, 60, 0, 2, yX5_when), (65, 61, 0, 1, yX5_home), (69, 64, 0, 0, yX5_ones), (73, 65, 0, 4, yX5_odds), (78, 68, 0, 2, yX5_lay), (82, 69, 0, 0, yX5_forget), (86, 70, 0, 1, yX5_which), (90, 72, 0, 0, yX5_best), (94, 74, 0, 1, yX5_board), (98, 76, 0, 3, yX5_rate), (102, 83, 0, 1, yX5_keep), (106, 84, 0, 1, yX5_back), (110, 85, 0, 1, yX5_count), (114, 86, 0, 0, yX5_trace), (12, 87, 2, 0, yX6_init), (17, 92, 0, 1, yX6_type), (22, 93, 0, 0, yX6_clear), (26, 103, 0, 0, yX6_lawn), (31, 108, 0, 2, yX6_cell), (35, 109, 0, 1, yX6_score), (39, 111, 0, 1, yX6_now), (43, 114, 0, 2, yX6_strikes), (47, 115, 0, 1, yX6_waits), (52, 117, 0, 3, yX6_boards), (56, 118, 0, 0, yX6_undo), (60, 119, 0, 2, yX6_would), (64, 120, 0, 2, yX6_when), (68, 126, 0, 1, yX6_home), (72, 128, 0, 0, yX6_ones), (77, 130, 0, 4, yX6_odds), (81, 131, 0, 2, yX6_lay), (85, 132, 0, 0, yX6_forget), (89, 133, 0, 1, yX6_which), (93, 134, 0, 0, yX6_best), (97, 136, 0, 1, yX6_board), (101, 138, 0, 3, yX6_rate), (105, 139, 0, 1, yX6_keep), (109, 140, 0, 1, yX6_back), (113, 141, 0, 1, yX6_count), (118, 142, 0, 0, yX6_trace)]
def m_calls_8 : List (Nat × Nat × Nat × Nat × MethodName) := []
def m_calls_9 : List (Nat × Nat × Nat × Nat × MethodName) := []
def m_calls (o : Nat) : List (Nat × Nat × Nat × Nat × MethodName) := ([m_calls_0, m_calls_1, m_calls_2, m_calls_3, m_calls_4, m_calls_5, m_calls_6, m_calls_7, m_calls_8, m_calls_9] : List (List (Nat × Nat × Nat × Nat × MethodName))).getD o []
def m_flds_0 : List (Nat × Nat × Nat × Nat) := [(18, 0, 0, 0), (22, 0, 1, 0), (25, 0, 2, 0), (28, 0, 3, 0), (31, 0, 4, 0), (34, 0, 5, 0), (37, 0, 6, 3), (41, 0, 7, 1), (9, 0, 8, 2)]
def m_flds_1 : List (Nat × Nat × Nat × Nat) := [(42, 0, 4, 0), (29, 0, 5, 0), (19, 0, 7, 1), (15, 1, 0, 0), (32, 1, 1, 0), (26, 1, 2, 0), (35, 1, 3, 0), (25, 1, 4, 1), (9, 1, 5, 2)]
def m_flds_2 : List (Nat × Nat × Nat × Nat) := [(46, 0, 2, 0), (68, 3, 0, 0), (54, 3, 3, 3), (9, 2, 0, 2), (15, 2, 1, 2), (18, 2, 2, 2), (25, 2, 3, 2)]
def m_flds_3 : List (Nat × Nat × Nat × Nat) := [(9, 3, 0, 0), (15, 3, 1, 0), (18, 3, 2, 0), (21, 3, 3, 3)]
def m_flds_4 : List (Nat × Nat × Nat × Nat) := [(9, 4, 0, 2), (15, 4, 1, 0), (24, 4, 2, 0), (47, 4, 3, 0), (40, 4, 4, 0), (69, 4, 5, 0), (27, 4, 6, 0), (30, 4, 7, 3), (34, 4, 8, 3), (72, 0, 0, 0), (79, 0, 1, 0), (96, 0, 2, 0), (99, 0, 3, 0), (102, 0, 4, 0), (82, 0, 5, 0)]
def m_flds_5 : List (Nat × Nat × Nat × Nat) := [(70, 4, 1, 0), (260, 0, 0, 0), (263, 0, 1, 0), (184, 0, 2, 0), (266, 0, 3, 0), (102, 0, 4, 0), (181, 0, 5, 0), (108, 1, 0, 0), (114, 1, 1, 0), (120, 1, 2, 0), (111, 1, 3, 0), (154, 1, 4, 1), (142, 3, 0, 0), (137, 3, 1, 0), (12, 5, 0, 2), (19, 5, 1, 2), (23, 5, 2, 2), (29, 5, 3, 2), (33, 5, 4, 2), (162, 5, 5, 0), (84, 5, 6, 0), (37, 5, 7, 2), (40, 5, 8, 2), (44, 5, 9, 2), (81, 5, 10, 0), (51, 5, 11, 2), (58, 5, 12, 2), (244, 5, 13, 1)]
def m_flds_6 : List (Nat × Nat × Nat × Nat) := [(48, 6, 0, 0), (55, 6, 1, 0), (7, 6, 2, 0), (134, 6, 3, 0), (13, 6, 4, 0), (16, 6, 5, 0), (19, 6, 6, 2), (23, 6, 7, 2), (137, 6, 8, 0), (26, 6, 9, 2), (29, 6, 10, 2), (140, 6, 11, 0), (33, 6, 12, 2), (207, 6, 13, 1), (36, 6, 14, 2), (58, 6, 15, 0), (61, 6, 16, 0), (68, 6, 17, 0), (74, 6, 18, 0), (71, 6, 19, 0), (81, 6, 20, 3), (107, 6, 21, 0), (88, 6, 22, 0), (97, 6, 23, 0), (110, 6, 24, 0), (125, 6, 25, 0), (113, 6, 26, 0), (104, 6, 27, 0), (94, 6, 28, 3), (39, 6, 29, 2), (143, 6, 30, 0), (42, 6, 31, 2), (45, 6, 32, 2)]
def m_flds_7 : List (Nat × Nat × Nat × Nat) := []
def m_flds_8 : List (Nat × Nat × Nat × Nat) := []
def m_flds_9 : List (Nat × Nat × Nat × Nat) := []
def m_flds (o : Nat) : List (Nat × Nat × Nat × Nat) := ([m_flds_0, m_flds_1, m_flds_2, m_flds_3, m_flds_4, m_flds_5, m_flds_6, m_flds_7, m_flds_8, m_flds_9] : List (List (Nat × Nat × Nat × Nat))).getD o []
def m_clss_0 : List (Nat × Nat) := []
def m_clss_1 : List (Nat × Nat) := []
def m_clss_2 : List (Nat × Nat) := [(22, 3)]
def m_clss_3 : List (Nat × Nat) := []
def m_clss_4 : List (Nat × Nat) := []
def m_clss_5 : List (Nat × Nat) := [(9, 4), (16, 0), (26, 1), (48, 3), (55, 2)]
def m_clss_6 : List (Nat × Nat) := []
def m_clss_7 : List (Nat × Nat) := [(7, 5), (10, 6)]
def m_clss_8 : List (Nat × Nat) := []
def m_clss_9 : List (Nat × Nat) := []
def m_clss (o : Nat) : List (Nat × Nat) := ([m_clss_0, m_clss_1, m_clss_2, m_clss_3, m_clss_4, m_clss_5, m_clss_6, m_clss_7, m_clss_8, m_clss_9] : List (List (Nat × Nat))).getD o []
def m_csts_0 : List (Nat × Int32) := []
def m_csts_1 : List (Nat × Int32) := []
def m_csts_2 : List (Nat × Int32) := []
def m_csts_3 : List (Nat × Int32) := []
def m_csts_4 : List (Nat × Int32) := []
def m_csts_5 : List (Nat × Int32) := [(138, 99999), (225, -1000000)]
def m_csts_6 : List (Nat × Int32) := [(172, 99999), (225, -1000000)]
def m_csts_7 : List (Nat × Int32) := []
def m_csts_8 : List (Nat × Int32) := []
def m_csts_9 : List (Nat × Int32) := []
def m_csts (o : Nat) : List (Nat × Int32) := ([m_csts_0, m_csts_1, m_csts_2, m_csts_3, m_csts_4, m_csts_5, m_csts_6, m_csts_7, m_csts_8, m_csts_9] : List (List (Nat × Int32))).getD o []
def m_lcss_0 : List (Nat × Int64) := []
def m_lcss_1 : List (Nat × Int64) := []
def m_lcss_2 : List (Nat × Int64) := [(66, 4611686018427387904)]
def m_lcss_3 : List (Nat × Int64) := []
def m_lcss_4 : List (Nat × Int64) := []
def m_lcss_5 : List (Nat × Int64) := [(247, 10), (249, 100), (251, 1000), (253, 10000), (255, 100000)]
def m_lcss_6 : List (Nat × Int64) := [(211, 11), (213, 101), (215, 1011), (217, 10101), (219, 100001)]
def m_lcss_7 : List (Nat × Int64) := []
def m_lcss_8 : List (Nat × Int64) := [(314, 6148914691236517205), (316, 3689348814741910323), (318, 1085102592571150095)]
def m_lcss_9 : List (Nat × Int64) := []
def m_lcss (o : Nat) : List (Nat × Int64) := ([m_lcss_0, m_lcss_1, m_lcss_2, m_lcss_3, m_lcss_4, m_lcss_5, m_lcss_6, m_lcss_7, m_lcss_8, m_lcss_9] : List (List (Nat × Int64))).getD o []
def m_oinit (o : Nat) : Nat := ([3, 3, 3, 3, 3, 3, 1, 0, 0, 0] : List Nat).getD o 0
def m_gw : List Cond := lw_tbl.filter goodWord
def m_nw : List Cond := [.methodLinkNest RX5 11 yX4_init RX5, .methodLinkNest RX5 28 yX1_init RX5, .methodLinkNest RX5 50 yX3_init RX5, .methodLinkNest RX5 57 yX2_init RX5, .methodLinkNest RX2 24 yX3_init RX5, .methodLinkNest RX3 47 yX5_answerOf RX5]
theorem m_at (i : Nat) {w : Cond} (h : lw_tbl[i]? = some w) (hg : goodWord w = true) : w ∈ m_gw := List.mem_filter.mpr ⟨List.mem_of_getElem? h, hg⟩
end
section
def m_good (q : m_E) : Prop := plainName q.1.cls = true ∧ Cond.code q.1 q.2.1 q.2.2.1 q.2.2.2.1 ∈ m_gw ∧ q.1.cls = m_ows.getD q.2.2.2.2.1 "" ∧ Cond.initialized q.1.cls ∈ m_gw ∧ (q.1.cls ≠ "java/lang/invoke/MethodHandle" ∧ q.1.cls ≠ "java/lang/invoke/VarHandle")
set_option maxRecDepth 20000 in
theorem mg_0 : m_good (yX0_init, cX0_init, 1, none, 0, 1, 21, []) := ⟨by decide +kernel, m_at 98 rfl rfl, rfl, m_at 43 rfl rfl, by decide +kernel, by decide +kernel⟩
set_option maxRecDepth 20000 in
theorem mg_1 : m_good (yX0_blank, cX0_blank, 2, none, 0, 0, 0, []) := ⟨by decide +kernel, m_at 103 rfl rfl, rfl, m_at 43 rfl rfl, by decide +kernel, by decide +kernel⟩
set_option maxRecDepth 20000 in
theorem mg_2 : m_good (yX0_placeOf, cX0_placeOf, 3, (some .int), 0, 0, 0, []) := ⟨by decide +kernel, m_at 335 rfl rfl, rfl, m_at 43 rfl rfl, by decide +kernel, by decide +kernel⟩
set_option maxRecDepth 20000 in
theorem mg_3 : m_good (yX0_isOn, cX0_isOn, 2, (some .boolean), 0, 1, 22, []) := ⟨by decide +kernel, m_at 453 rfl rfl, rfl, m_at 43 rfl rfl, by decide +kernel, by decide +kernel⟩
set_option maxRecDepth 20000 in
theorem mg_4 : m_good (yX0_kindOf, cX0_kindOf, 2, (some .int), 0, 0, 0, []) := ⟨by decide +kernel, m_at 343 rfl rfl, rfl, m_at 43 rfl rfl, by decide +kernel, by decide +kernel⟩
set_option maxRecDepth 20000 in
theorem mg_5 : m_good (yX0_beside, cX0_beside, 5, (some .int), 0, 0, 0, []) := ⟨by decide +kernel, m_at 420 rfl rfl, rfl, m_at 43 rfl rfl, by decide +kernel, by decide +kernel⟩
set_option maxRecDepth 20000 in
theorem mg_6 : m_good (yX0_leftOver, cX0_leftOver, 2, (some .int), 0, 0, 0, []) := ⟨by decide +kernel, m_at 602 rfl rfl, rfl, m_at 43 rfl rfl, by decide +kernel, by decide +kernel⟩
set_option maxRecDepth 20000 in
theorem mg_7 : m_good (yX0_isOpen, cX0_isOpen, 2, (some .boolean), 0, 0, 0, []) := ⟨by decide +kernel, m_at 388 rfl rfl, rfl, m_at 43 rfl rfl, by decide +kernel, by decide +kernel⟩
set_option maxRecDepth 20000 in
theorem mg_8 : m_good (yX0_put, cX0_put, 5, (some .boolean), 0, 0, 0, []) := ⟨by decide +kernel, m_at 327 rfl rfl, rfl, m_at 43 rfl rfl, by decide +kernel, by decide +kernel⟩
set_option maxRecDepth 20000 in
theorem mg_9 : m_good (yX0_mayBeTee, cX0_mayBeTee, 2, (some .boolean), 0, 1, 21, []) := ⟨by decide +kernel, m_at 339 rfl rfl, rfl, m_at 43 rfl rfl, by decide +kernel, by decide +kernel⟩
set_option maxRecDepth 20000 in
theorem mg_10 : m_good (yX1_init, cX1_init, 1, none, 1, 1, 20, []) := ⟨by decide +kernel, m_at 153 rfl rfl, rfl, m_at 44 rfl rfl, by decide +kernel, by decide +kernel⟩
set_option maxRecDepth 20000 in
theorem mg_11 : m_good (yX1_begin, cX1_begin, 3, none, 1, 0, 0, []) := ⟨by decide +kernel, m_at 229 rfl rfl, rfl, m_at 44 rfl rfl, by decide +kernel, by decide +kernel⟩
set_option maxRecDepth 20000 in
theorem mg_12 : m_good (yX1_copyFrom, cX1_copyFrom, 3, none, 1, 0, 0, []) := ⟨by decide +kernel, m_at 432 rfl rfl, rfl, m_at 44 rfl rfl, by decide +kernel, by decide +kernel⟩
set_option maxRecDepth 20000 in
theorem mg_13 : m_good (yX1_hasPlank, cX1_hasPlank, 2, (some .boolean), 1, 0, 0, []) := ⟨by decide +kernel, m_at 368 rfl rfl, rfl, m_at 44 rfl rfl, by decide +kernel, by decide +kernel⟩
set_option maxRecDepth 20000 in
theorem mg_14 : m_good (yX1_scoreOf, cX1_scoreOf, 2, (some .int), 1, 0, 0, []) := ⟨by decide +kernel, m_at 377 rfl rfl, rfl, m_at 44 rfl rfl, by decide +kernel, by decide +kernel⟩
set_option maxRecDepth 20000 in
theorem mg_15 : m_good (yX1_leader, cX1_leader, 4, (some .int), 1, 1, 21, []) := ⟨by decide +kernel, m_at 392 rfl rfl, rfl, m_at 44 rfl rfl, by decide +kernel, by decide +kernel⟩
set_option maxRecDepth 20000 in
theorem mg_16 : m_good (yX1_finish, cX1_finish, 4, none, 1, 0, 0, []) := ⟨by decide +kernel, m_at 437 rfl rfl, rfl, m_at 44 rfl rfl, by decide +kernel, by decide +kernel⟩
set_option maxRecDepth 20000 in
theorem mg_17 : m_good (yX2_init, cX2_init, 1, none, 2, 2, 40, []) := ⟨by decide +kernel, m_at 208 rfl rfl, rfl, m_at 46 rfl rfl, by decide +kernel, by decide +kernel⟩
set_option maxRecDepth 20000 in
theorem mg_18 : m_good (yX2_survey, cX2_survey, 5, none, 2, 4, 109, [2]) := ⟨by decide +kernel, m_at 480 rfl rfl, rfl, m_at 46 rfl rfl, by decide +kernel, by decide +kernel⟩
set_option maxRecDepth 20000 in
theorem mg_19 : m_good (yX2_surveyBeside, cX2_surveyBeside, 8, none, 2, 4, 109, [2]) := ⟨by decide +kernel, m_at 563 rfl rfl, rfl, m_at 46 rfl rfl, by decide +kernel, by decide +kernel⟩
set_option maxRecDepth 20000 in
theorem mg_20 : m_good (yX2_spread, cX2_spread, 10, (some .long), 2, 3, 80, [2, 7]) := ⟨by decide +kernel, m_at 484 rfl rfl, rfl, m_at 46 rfl rfl, by decide +kernel, by decide +kernel⟩
set_option maxRecDepth 20000 in
theorem mg_21 : m_good (yX2_course, cX2_course, 11, (some .long), 2, 2, 50, [2, 7]) := ⟨by decide +kernel, m_at 490 rfl rfl, rfl, m_at 46 rfl rfl, by decide +kernel, by decide +kernel⟩
set_option maxRecDepth 20000 in
theorem mg_22 : m_good (yX2_measure, cX2_measure, 7, none, 2, 0, 0, [1, 4]) := ⟨by decide +kernel, m_at 497 rfl rfl, rfl, m_at 46 rfl rfl, by decide +kernel, by decide +kernel⟩
set_option maxRecDepth 20000 in
theorem mg_23 : m_good (yX2_fewest, cX2_fewest, 2, (some .int), 2, 0, 0, []) := ⟨by decide +kernel, m_at 501 rfl rfl, rfl, m_at 46 rfl rfl, by decide +kernel, by decide +kernel⟩
set_option maxRecDepth 20000 in
theorem mg_24 : m_good (yX3_init, cX3_init, 1, none, 3, 1, 20, []) := ⟨by decide +kernel, m_at 184 rfl rfl, rfl, m_at 45 rfl rfl, by decide +kernel, by decide +kernel⟩
set_option maxRecDepth 20000 in
theorem mg_25 : m_good (yX3_start, cX3_start, 4, none, 3, 0, 0, []) := ⟨by decide +kernel, m_at 412 rfl rfl, rfl, m_at 45 rfl rfl, by decide +kernel, by decide +kernel⟩
set_option maxRecDepth 20000 in
theorem mg_26 : m_good (yX3_advance, cX3_advance, 7, (some .int), 3, 1, 24, [2]) := ⟨by decide +kernel, m_at 416 rfl rfl, rfl, m_at 45 rfl rfl, by decide +kernel, by decide +kernel⟩
set_option maxRecDepth 20000 in
theorem mg_27 : m_good (yX3_strike, cX3_strike, 10, (some .int), 3, 2, 50, [2]) := ⟨by decide +kernel, m_at 408 rfl rfl, rfl, m_at 45 rfl rfl, by decide +kernel, by decide +kernel⟩
set_option maxRecDepth 20000 in
theorem mg_28 : m_good (yX4_init, cX4_init, 1, none, 4, 1, 20, []) := ⟨by decide +kernel, m_at 62 rfl rfl, rfl, m_at 42 rfl rfl, by decide +kernel, by decide +kernel⟩
set_option maxRecDepth 20000 in
theorem mg_29 : m_good (yX4_add, cX4_add, 2, (some .boolean), 4, 0, 0, []) := ⟨by decide +kernel, m_at 280 rfl rfl, rfl, m_at 42 rfl rfl, by decide +kernel, by decide +kernel⟩
set_option maxRecDepth 20000 in
theorem mg_30 : m_good (yX4_tell, cX4_tell, 3, (some .int), 4, 5, 108, []) := ⟨by decide +kernel, m_at 292 rfl rfl, rfl, m_at 42 rfl rfl, by decide +kernel, by decide +kernel⟩
set_option maxRecDepth 20000 in
theorem mg_31 : m_good (yX4_item, cX4_item, 2, (some .boolean), 4, 4, 87, []) := ⟨by decide +kernel, m_at 307 rfl rfl, rfl, m_at 42 rfl rfl, by decide +kernel, by decide +kernel⟩
set_option maxRecDepth 20000 in
theorem mg_32 : m_good (yX4_width, cX4_width, 2, (some .boolean), 4, 3, 65, []) := ⟨by decide +kernel, m_at 311 rfl rfl, rfl, m_at 42 rfl rfl, by decide +kernel, by decide +kernel⟩
set_option maxRecDepth 20000 in
theorem mg_33 : m_good (yX4_row, cX4_row, 3, (some .boolean), 4, 3, 63, []) := ⟨by decide +kernel, m_at 323 rfl rfl, rfl, m_at 42 rfl rfl, by decide +kernel, by decide +kernel⟩
set_option maxRecDepth 20000 in
theorem mg_34 : m_good (yX4_teePlace, cX4_teePlace, 3, (some .boolean), 4, 3, 65, []) := ⟨by decide +kernel, m_at 331 rfl rfl, rfl, m_at 42 rfl rfl, by decide +kernel, by decide +kernel⟩
set_option maxRecDepth 20000 in
theorem mg_35 : m_good (yX4_sails, cX4_sails, 2, (some .boolean), 4, 3, 65, []) := ⟨by decide +kernel, m_at 347 rfl rfl, rfl, m_at 42 rfl rfl, by decide +kernel, by decide +kernel⟩
set_option maxRecDepth 20000 in
theorem mg_36 : m_good (yX4_players, cX4_players, 2, (some .boolean), 4, 3, 65, []) := ⟨by decide +kernel, m_at 351 rfl rfl, rfl, m_at 42 rfl rfl, by decide +kernel, by decide +kernel⟩
set_option maxRecDepth 20000 in
theorem mg_37 : m_good (yX4_number, cX4_number, 3, (some .boolean), 4, 2, 43, []) := ⟨by decide +kernel, m_at 315 rfl rfl, rfl, m_at 42 rfl rfl, by decide +kernel, by decide +kernel⟩
set_option maxRecDepth 20000 in
theorem mg_38 : m_good (yX4_ends, cX4_ends, 1, (some .boolean), 4, 2, 43, []) := ⟨by decide +kernel, m_at 319 rfl rfl, rfl, m_at 42 rfl rfl, by decide +kernel, by decide +kernel⟩
set_option maxRecDepth 20000 in
theorem mg_39 : m_good (yX4_read, cX4_read, 3, none, 4, 1, 21, []) := ⟨by decide +kernel, m_at 297 rfl rfl, rfl, m_at 42 rfl rfl, by decide +kernel, by decide +kernel⟩
set_option maxRecDepth 20000 in
theorem mg_40 : m_good (yX4_isDigit, cX4_isDigit, 1, (some .boolean), 4, 0, 0, []) := ⟨by decide +kernel, m_at 300 rfl rfl, rfl, m_at 42 rfl rfl, by decide +kernel, by decide +kernel⟩
set_option maxRecDepth 20000 in
theorem mg_41 : m_good (yX5_init, cX5_init, 2, none, 5, 3, 60, []) := ⟨by decide +kernel, m_at 54 rfl rfl, rfl, m_at 41 rfl rfl, by decide +kernel, by decide +kernel⟩
set_option maxRecDepth 20000 in
theorem mg_42 : m_good (yX5_type, cX5_type, 2, (some .int), 5, 1, 21, []) := ⟨by decide +kernel, m_at 276 rfl rfl, rfl, m_at 41 rfl rfl, by decide +kernel, by decide +kernel⟩
set_option maxRecDepth 20000 in
theorem mg_43 : m_good (yX5_clear, cX5_clear, 2, (some .int), 5, 0, 0, []) := ⟨by decide +kernel, m_at 284 rfl rfl, rfl, m_at 41 rfl rfl, by decide +kernel, by decide +kernel⟩
set_option maxRecDepth 20000 in
theorem mg_44 : m_good (yX5_lawn, cX5_lawn, 3, (some .int), 5, 6, 130, []) := ⟨by decide +kernel, m_at 288 rfl rfl, rfl, m_at 41 rfl rfl, by decide +kernel, by decide +kernel⟩
set_option maxRecDepth 20000 in
theorem mg_45 : m_good (yX5_beginAnew, cX5_beginAnew, 2, none, 5, 1, 22, []) := ⟨by decide +kernel, m_at 355 rfl rfl, rfl, m_at 41 rfl rfl, by decide +kernel, by decide +kernel⟩
set_option maxRecDepth 20000 in
theorem mg_46 : m_good (yX5_cell, cX5_cell, 4, (some .int), 5, 2, 42, []) := ⟨by decide +kernel, m_at 359 rfl rfl, rfl, m_at 41 rfl rfl, by decide +kernel, by decide +kernel⟩
set_option maxRecDepth 20000 in
theorem mg_47 : m_good (yX5_kindNow, cX5_kindNow, 2, (some .int), 5, 1, 21, []) := ⟨by decide +kernel, m_at 364 rfl rfl, rfl, m_at 41 rfl rfl, by decide +kernel, by decide +kernel⟩
set_option maxRecDepth 20000 in
theorem mg_48 : m_good (yX5_score, cX5_score, 2, (some .int), 5, 1, 21, []) := ⟨by decide +kernel, m_at 373 rfl rfl, rfl, m_at 41 rfl rfl, by decide +kernel, by decide +kernel⟩
set_option maxRecDepth 20000 in
theorem mg_49 : m_good (yX5_now, cX5_now, 2, (some .int), 5, 2, 44, []) := ⟨by decide +kernel, m_at 381 rfl rfl, rfl, m_at 41 rfl rfl, by decide +kernel, by decide +kernel⟩
set_option maxRecDepth 20000 in
theorem mg_50 : m_good (yX5_answerOf, cX5_answerOf, 1, (some .int), 5, 0, 0, []) := ⟨by decide +kernel, m_at 384 rfl rfl, rfl, m_at 41 rfl rfl, by decide +kernel, by decide +kernel⟩
set_option maxRecDepth 20000 in
theorem mg_51 : m_good (yX5_strikes, cX5_strikes, 4, (some .int), 5, 4, 102, []) := ⟨by decide +kernel, m_at 397 rfl rfl, rfl, m_at 41 rfl rfl, by decide +kernel, by decide +kernel⟩
set_option maxRecDepth 20000 in
theorem mg_52 : m_good (yX5_isStroke, cX5_isStroke, 2, (some .boolean), 5, 0, 0, []) := ⟨by decide +kernel, m_at 400 rfl rfl, rfl, m_at 41 rfl rfl, by decide +kernel, by decide +kernel⟩
set_option maxRecDepth 20000 in
theorem mg_53 : m_good (yX5_struck, cX5_struck, 4, (some .int), 5, 3, 79, []) := ⟨by decide +kernel, m_at 404 rfl rfl, rfl, m_at 41 rfl rfl, by decide +kernel, by decide +kernel⟩
set_option maxRecDepth 20000 in
theorem mg_54 : m_good (yX5_remember, cX5_remember, 1, none, 5, 1, 22, []) := ⟨by decide +kernel, m_at 428 rfl rfl, rfl, m_at 41 rfl rfl, by decide +kernel, by decide +kernel⟩
set_option maxRecDepth 20000 in
theorem mg_55 : m_good (yX5_waits, cX5_waits, 2, (some .int), 5, 2, 42, []) := ⟨by decide +kernel, m_at 441 rfl rfl, rfl, m_at 41 rfl rfl, by decide +kernel, by decide +kernel⟩
set_option maxRecDepth 20000 in
theorem mg_56 : m_good (yX5_boards, cX5_boards, 5, (some .int), 5, 3, 65, []) := ⟨by decide +kernel, m_at 445 rfl rfl, rfl, m_at 41 rfl rfl, by decide +kernel, by decide +kernel⟩
set_option maxRecDepth 20000 in
theorem mg_57 : m_good (yX5_mayChange, cX5_mayChange, 3, (some .boolean), 5, 2, 43, []) := ⟨by decide +kernel, m_at 449 rfl rfl, rfl, m_at 41 rfl rfl, by decide +kernel, by decide +kernel⟩
set_option maxRecDepth 20000 in
theorem mg_58 : m_good (yX5_undo, cX5_undo, 1, (some .int), 5, 1, 22, []) := ⟨by decide +kernel, m_at 464 rfl rfl, rfl, m_at 41 rfl rfl, by decide +kernel, by decide +kernel⟩
set_option maxRecDepth 20000 in
theorem mg_59 : m_good (yX5_would, cX5_would, 3, (some .int), 5, 4, 102, []) := ⟨by decide +kernel, m_at 468 rfl rfl, rfl, m_at 41 rfl rfl, by decide +kernel, by decide +kernel⟩
set_option maxRecDepth 20000 in
theorem mg_60 : m_good (yX5_when, cX5_when, 5, (some .int), 5, 4, 102, []) := ⟨by decide +kernel, m_at 472 rfl rfl, rfl, m_at 41 rfl rfl, by decide +kernel, by decide +kernel⟩
set_option maxRecDepth 20000 in
theorem mg_61 : m_good (yX5_home, cX5_home, 3, (some .int), 5, 5, 133, []) := ⟨by decide +kernel, m_at 476 rfl rfl, rfl, m_at 41 rfl rfl, by decide +kernel, by decide +kernel⟩
set_option maxRecDepth 20000 in
theorem mg_62 : m_good (yX5_strokeHome, cX5_strokeHome, 7, (some .int), 5, 4, 106, []) := ⟨by decide +kernel, m_at 505 rfl rfl, rfl, m_at 41 rfl rfl, by decide +kernel, by decide +kernel⟩
set_option maxRecDepth 20000 in
theorem mg_63 : m_good (yX5_firstNearer, cX5_firstNearer, 8, (some .int), 5, 3, 79, []) := ⟨by decide +kernel, m_at 509 rfl rfl, rfl, m_at 41 rfl rfl, by decide +kernel, by decide +kernel⟩
set_option maxRecDepth 20000 in
theorem mg_64 : m_good (yX5_ones, cX5_ones, 3, (some .int), 5, 5, 133, []) := ⟨by decide +kernel, m_at 513 rfl rfl, rfl, m_at 41 rfl rfl, by decide +kernel, by decide +kernel⟩
set_option maxRecDepth 20000 in
theorem mg_65 : m_good (yX5_odds, cX5_odds, 7, (some .int), 5, 5, 124, []) := ⟨by decide +kernel, m_at 517 rfl rfl, rfl, m_at 41 rfl rfl, by decide +kernel, by decide +kernel⟩
set_option maxRecDepth 20000 in
theorem mg_66 : m_good (yX5_inOne, cX5_inOne, 3, (some .int), 5, 4, 102, []) := ⟨by decide +kernel, m_at 521 rfl rfl, rfl, m_at 41 rfl rfl, by decide +kernel, by decide +kernel⟩
set_option maxRecDepth 20000 in
theorem mg_67 : m_good (yX5_commonDivisor, cX5_commonDivisor, 2, (some .int), 5, 0, 0, []) := ⟨by decide +kernel, m_at 527 rfl rfl, rfl, m_at 41 rfl rfl, by decide +kernel, by decide +kernel⟩
set_option maxRecDepth 20000 in
theorem mg_68 : m_good (yX5_lay, cX5_lay, 5, (some .int), 5, 1, 22, []) := ⟨by decide +kernel, m_at 531 rfl rfl, rfl, m_at 41 rfl rfl, by decide +kernel, by decide +kernel⟩
set_option maxRecDepth 20000 in
theorem mg_69 : m_good (yX5_forget, cX5_forget, 2, (some .int), 5, 0, 0, []) := ⟨by decide +kernel, m_at 535 rfl rfl, rfl, m_at 41 rfl rfl, by decide +kernel, by decide +kernel⟩
set_option maxRecDepth 20000 in
theorem mg_70 : m_good (yX5_which, cX5_which, 6, (some .int), 5, 5, 126, []) := ⟨by decide +kernel, m_at 539 rfl rfl, rfl, m_at 41 rfl rfl, by decide +kernel, by decide +kernel⟩
set_option maxRecDepth 20000 in
theorem mg_71 : m_good (yX5_allLay, cX5_allLay, 5, (some .boolean), 5, 4, 102, []) := ⟨by decide +kernel, m_at 543 rfl rfl, rfl, m_at 41 rfl rfl, by decide +kernel, by decide +kernel⟩
set_option maxRecDepth 20000 in
theorem mg_72 : m_good (yX5_best, cX5_best, 4, (some .int), 5, 5, 133, []) := ⟨by decide +kernel, m_at 547 rfl rfl, rfl, m_at 41 rfl rfl, by decide +kernel, by decide +kernel⟩
set_option maxRecDepth 20000 in
theorem mg_73 : m_good (yX5_leastStrokes, cX5_leastStrokes, 2, (some .int), 5, 1, 21, []) := ⟨by decide +kernel, m_at 551 rfl rfl, rfl, m_at 41 rfl rfl, by decide +kernel, by decide +kernel⟩
set_option maxRecDepth 20000 in
theorem mg_74 : m_good (yX5_board, cX5_board, 6, (some .int), 5, 6, 158, []) := ⟨by decide +kernel, m_at 555 rfl rfl, rfl, m_at 41 rfl rfl, by decide +kernel, by decide +kernel⟩
set_option maxRecDepth 20000 in
theorem mg_75 : m_good (yX5_homeIfChanged, cX5_homeIfChanged, 3, (some .int), 5, 5, 136, []) := ⟨by decide +kernel, m_at 559 rfl rfl, rfl, m_at 41 rfl rfl, by decide +kernel, by decide +kernel⟩
set_option maxRecDepth 20000 in
theorem mg_76 : m_good (yX5_rate, cX5_rate, 4, (some .int), 5, 3, 65, []) := ⟨by decide +kernel, m_at 568 rfl rfl, rfl, m_at 41 rfl rfl, by decide +kernel, by decide +kernel⟩
set_option maxRecDepth 20000 in
theorem mg_77 : m_good (yX5_asCell, cX5_asCell, 2, (some .int), 5, 0, 0, []) := ⟨by decide +kernel, m_at 578 rfl rfl, rfl, m_at 41 rfl rfl, by decide +kernel, by decide +kernel⟩
set_option maxRecDepth 20000 in
theorem mg_78 : m_good (yX5_asBoard, cX5_asBoard, 3, (some .int), 5, 1, 21, []) := ⟨by decide +kernel, m_at 573 rfl rfl, rfl, m_at 41 rfl rfl, by decide +kernel, by decide +kernel⟩
set_option maxRecDepth 20000 in
theorem mg_79 : m_good (yX5_asPond, cX5_asPond, 2, (some .int), 5, 1, 21, []) := ⟨by decide +kernel, m_at 582 rfl rfl, rfl, m_at 41 rfl rfl, by decide +kernel, by decide +kernel⟩
set_option maxRecDepth 20000 in
theorem mg_80 : m_good (yX5_asMill, cX5_asMill, 3, (some .int), 5, 2, 43, []) := ⟨by decide +kernel, m_at 587 rfl rfl, rfl, m_at 41 rfl rfl, by decide +kernel, by decide +kernel⟩
set_option maxRecDepth 20000 in
theorem mg_81 : m_good (yX5_asLeaf, cX5_asLeaf, 2, (some .int), 5, 2, 42, []) := ⟨by decide +kernel, m_at 592 rfl rfl, rfl, m_at 41 rfl rfl, by decide +kernel, by decide +kernel⟩
set_option maxRecDepth 20000 in
theorem mg_82 : m_good (yX5_asPipe, cX5_asPipe, 2, (some .int), 5, 1, 21, []) := ⟨by decide +kernel, m_at 597 rfl rfl, rfl, m_at 41 rfl rfl, by decide +kernel, by decide +kernel⟩
set_option maxRecDepth 20000 in
theorem mg_83 : m_good (yX5_keep, cX5_keep, 2, (some .int), 5, 1, 22, []) := ⟨by decide +kernel, m_at 606 rfl rfl, rfl, m_at 41 rfl rfl, by decide +kernel, by decide +kernel⟩
set_option maxRecDepth 20000 in
theorem mg_84 : m_good (yX5_back, cX5_back, 2, (some .int), 5, 1, 22, []) := ⟨by decide +kernel, m_at 610 rfl rfl, rfl, m_at 41 rfl rfl, by decide +kernel, by decide +kernel⟩
set_option maxRecDepth 20000 in
theorem mg_85 : m_good (yX5_count, cX5_count, 2, (some .int), 5, 1, 20, []) := ⟨by decide +kernel, m_at 614 rfl rfl, rfl, m_at 41 rfl rfl, by decide +kernel, by decide +kernel⟩
set_option maxRecDepth 20000 in
theorem mg_86 : m_good (yX5_trace, cX5_trace, 1, (some .long), 5, 0, 0, []) := ⟨by decide +kernel, m_at 618 rfl rfl, rfl, m_at 41 rfl rfl, by decide +kernel, by decide +kernel⟩
set_option maxRecDepth 20000 in
theorem mg_87 : m_good (yX6_init, cX6_init, 1, none, 6, 1, 20, []) := ⟨by decide +kernel, m_at 623 rfl rfl, rfl, m_at 47 rfl rfl, by decide +kernel, by decide +kernel⟩
set_option maxRecDepth 20000 in
theorem mg_88 : m_good (yX6_in, cX6_in, 3, (some .boolean), 6, 0, 0, []) := ⟨by decide +kernel, m_at 731 rfl rfl, rfl, m_at 47 rfl rfl, by decide +kernel, by decide +kernel⟩
set_option maxRecDepth 20000 in
theorem mg_89 : m_good (yX6_isCell, cX6_isCell, 3, (some .boolean), 6, 1, 22, []) := ⟨by decide +kernel, m_at 785 rfl rfl, rfl, m_at 47 rfl rfl, by decide +kernel, by decide +kernel⟩
set_option maxRecDepth 20000 in
theorem mg_90 : m_good (yX6_copy, cX6_copy, 5, none, 6, 0, 0, []) := ⟨by decide +kernel, m_at 823 rfl rfl, rfl, m_at 47 rfl rfl, by decide +kernel, by decide +kernel⟩
set_option maxRecDepth 20000 in
theorem mg_91 : m_good (yX6_placed, cX6_placed, 1, (some .int), 6, 0, 0, []) := ⟨by decide +kernel, m_at 796 rfl rfl, rfl, m_at 47 rfl rfl, by decide +kernel, by decide +kernel⟩
set_option maxRecDepth 20000 in
theorem mg_92 : m_good (yX6_type, cX6_type, 2, (some .int), 6, 1, 22, []) := ⟨by decide +kernel, m_at 728 rfl rfl, rfl, m_at 47 rfl rfl, by decide +kernel, by decide +kernel⟩
set_option maxRecDepth 20000 in
theorem mg_93 : m_good (yX6_clear, cX6_clear, 2, (some .int), 6, 0, 0, []) := ⟨by decide +kernel, m_at 735 rfl rfl, rfl, m_at 47 rfl rfl, by decide +kernel, by decide +kernel⟩
set_option maxRecDepth 20000 in
theorem mg_94 : m_good (yX6_letterAt, cX6_letterAt, 2, (some .int), 6, 0, 0, []) := ⟨by decide +kernel, m_at 747 rfl rfl, rfl, m_at 47 rfl rfl, by decide +kernel, by decide +kernel⟩
set_option maxRecDepth 20000 in
theorem mg_95 : m_good (yX6_isFigure, cX6_isFigure, 1, (some .boolean), 6, 1, 22, []) := ⟨by decide +kernel, m_at 750 rfl rfl, rfl, m_at 47 rfl rfl, by decide +kernel, by decide +kernel⟩
set_option maxRecDepth 20000 in
theorem mg_96 : m_good (yX6_next, cX6_next, 2, none, 6, 2, 42, []) := ⟨by decide +kernel, m_at 743 rfl rfl, rfl, m_at 47 rfl rfl, by decide +kernel, by decide +kernel⟩
set_option maxRecDepth 20000 in
theorem mg_97 : m_good (yX6_takes, cX6_takes, 5, (some .int), 6, 3, 63, []) := ⟨by decide +kernel, m_at 762 rfl rfl, rfl, m_at 47 rfl rfl, by decide +kernel, by decide +kernel⟩
set_option maxRecDepth 20000 in
theorem mg_98 : m_good (yX6_kindOf, cX6_kindOf, 1, (some .int), 6, 0, 0, []) := ⟨by decide +kernel, m_at 769 rfl rfl, rfl, m_at 47 rfl rfl, by decide +kernel, by decide +kernel⟩
set_option maxRecDepth 20000 in
theorem mg_99 : m_good (yX6_readRow, cX6_readRow, 3, none, 6, 3, 63, []) := ⟨by decide +kernel, m_at 766 rfl rfl, rfl, m_at 47 rfl rfl, by decide +kernel, by decide +kernel⟩
set_option maxRecDepth 20000 in
theorem mg_100 : m_good (yX6_readTee, cX6_readTee, 3, none, 6, 4, 87, []) := ⟨by decide +kernel, m_at 773 rfl rfl, rfl, m_at 47 rfl rfl, by decide +kernel, by decide +kernel⟩
set_option maxRecDepth 20000 in
theorem mg_101 : m_good (yX6_mayBegin, cX6_mayBegin, 2, (some .boolean), 6, 0, 0, []) := ⟨by decide +kernel, m_at 758 rfl rfl, rfl, m_at 47 rfl rfl, by decide +kernel, by decide +kernel⟩
set_option maxRecDepth 20000 in
theorem mg_102 : m_good (yX6_readItem, cX6_readItem, 2, none, 6, 5, 109, []) := ⟨by decide +kernel, m_at 754 rfl rfl, rfl, m_at 47 rfl rfl, by decide +kernel, by decide +kernel⟩
set_option maxRecDepth 20000 in
theorem mg_103 : m_good (yX6_lawn, cX6_lawn, 1, (some .int), 6, 6, 130, []) := ⟨by decide +kernel, m_at 739 rfl rfl, rfl, m_at 47 rfl rfl, by decide +kernel, by decide +kernel⟩
set_option maxRecDepth 20000 in
theorem mg_104 : m_good (yX6_settles, cX6_settles, 2, none, 6, 0, 0, []) := ⟨by decide +kernel, m_at 777 rfl rfl, rfl, m_at 47 rfl rfl, by decide +kernel, by decide +kernel⟩
set_option maxRecDepth 20000 in
theorem mg_105 : m_good (yX6_rolls, cX6_rolls, 11, (some .int), 6, 2, 44, []) := ⟨by decide +kernel, m_at 815 rfl rfl, rfl, m_at 47 rfl rfl, by decide +kernel, by decide +kernel⟩
set_option maxRecDepth 20000 in
theorem mg_106 : m_good (yX6_isStroke, cX6_isStroke, 2, (some .boolean), 6, 1, 22, []) := ⟨by decide +kernel, m_at 807 rfl rfl, rfl, m_at 47 rfl rfl, by decide +kernel, by decide +kernel⟩
set_option maxRecDepth 20000 in
theorem mg_107 : m_good (yX6_isOver, cX6_isOver, 1, (some .boolean), 6, 0, 0, []) := ⟨by decide +kernel, m_at 811 rfl rfl, rfl, m_at 47 rfl rfl, by decide +kernel, by decide +kernel⟩
set_option maxRecDepth 20000 in
theorem mg_108 : m_good (yX6_cell, cX6_cell, 3, (some .int), 6, 2, 44, []) := ⟨by decide +kernel, m_at 781 rfl rfl, rfl, m_at 47 rfl rfl, by decide +kernel, by decide +kernel⟩
set_option maxRecDepth 20000 in
theorem mg_109 : m_good (yX6_score, cX6_score, 2, (some .int), 6, 1, 22, []) := ⟨by decide +kernel, m_at 789 rfl rfl, rfl, m_at 47 rfl rfl, by decide +kernel, by decide +kernel⟩
set_option maxRecDepth 20000 in
theorem mg_110 : m_good (yX6_leader, cX6_leader, 4, (some .int), 6, 0, 0, []) := ⟨by decide +kernel, m_at 800 rfl rfl, rfl, m_at 47 rfl rfl, by decide +kernel, by decide +kernel⟩
set_option maxRecDepth 20000 in
theorem mg_111 : m_good (yX6_now, cX6_now, 2, (some .int), 6, 1, 23, []) := ⟨by decide +kernel, m_at 793 rfl rfl, rfl, m_at 47 rfl rfl, by decide +kernel, by decide +kernel⟩
set_option maxRecDepth 20000 in
theorem mg_112 : m_good (yX6_remembers, cX6_remembers, 2, none, 6, 1, 24, []) := ⟨by decide +kernel, m_at 820 rfl rfl, rfl, m_at 47 rfl rfl, by decide +kernel, by decide +kernel⟩
set_option maxRecDepth 20000 in
theorem mg_113 : m_good (yX6_ends, cX6_ends, 2, none, 6, 0, 0, []) := ⟨by decide +kernel, m_at 827 rfl rfl, rfl, m_at 47 rfl rfl, by decide +kernel, by decide +kernel⟩
set_option maxRecDepth 20000 in
theorem mg_114 : m_good (yX6_strikes, cX6_strikes, 4, (some .int), 6, 3, 74, []) := ⟨by decide +kernel, m_at 804 rfl rfl, rfl, m_at 47 rfl rfl, by decide +kernel, by decide +kernel⟩
set_option maxRecDepth 20000 in
theorem mg_115 : m_good (yX6_waits, cX6_waits, 2, (some .int), 6, 2, 45, []) := ⟨by decide +kernel, m_at 831 rfl rfl, rfl, m_at 47 rfl rfl, by decide +kernel, by decide +kernel⟩
set_option maxRecDepth 20000 in
theorem mg_116 : m_good (yX6_mayBoard, cX6_mayBoard, 2, (some .boolean), 6, 0, 0, []) := ⟨by decide +kernel, m_at 839 rfl rfl, rfl, m_at 47 rfl rfl, by decide +kernel, by decide +kernel⟩
set_option maxRecDepth 20000 in
theorem mg_117 : m_good (yX6_boards, cX6_boards, 7, (some .int), 6, 2, 45, []) := ⟨by decide +kernel, m_at 835 rfl rfl, rfl, m_at 47 rfl rfl, by decide +kernel, by decide +kernel⟩
set_option maxRecDepth 20000 in
theorem mg_118 : m_good (yX6_undo, cX6_undo, 1, (some .int), 6, 1, 24, []) := ⟨by decide +kernel, m_at 843 rfl rfl, rfl, m_at 47 rfl rfl, by decide +kernel, by decide +kernel⟩
set_option maxRecDepth 20000 in
theorem mg_119 : m_good (yX6_would, cX6_would, 3, (some .int), 6, 3, 74, []) := ⟨by decide +kernel, m_at 847 rfl rfl, rfl, m_at 47 rfl rfl, by decide +kernel, by decide +kernel⟩
set_option maxRecDepth 20000 in
theorem mg_120 : m_good (yX6_when, cX6_when, 5, (some .int), 6, 3, 74, []) := ⟨by decide +kernel, m_at 851 rfl rfl, rfl, m_at 47 rfl rfl, by decide +kernel, by decide +kernel⟩
set_option maxRecDepth 20000 in
theorem mg_121 : m_good (yX6_mayLie, cX6_mayLie, 2, (some .boolean), 6, 2, 44, []) := ⟨by decide +kernel, m_at 863 rfl rfl, rfl, m_at 47 rfl rfl, by decide +kernel, by decide +kernel⟩
set_option maxRecDepth 20000 in
theorem mg_122 : m_good (yX6_strokeAt, cX6_strokeAt, 4, (some .int), 6, 0, 0, []) := ⟨by decide +kernel, m_at 878 rfl rfl, rfl, m_at 47 rfl rfl, by decide +kernel, by decide +kernel⟩
set_option maxRecDepth 20000 in
theorem mg_123 : m_good (yX6_isNearer, cX6_isNearer, 5, (some .boolean), 6, 0, 0, []) := ⟨by decide +kernel, m_at 867 rfl rfl, rfl, m_at 47 rfl rfl, by decide +kernel, by decide +kernel⟩
set_option maxRecDepth 20000 in
theorem mg_124 : m_good (yX6_findHome, cX6_findHome, 4, none, 6, 3, 74, []) := ⟨by decide +kernel, m_at 859 rfl rfl, rfl, m_at 47 rfl rfl, by decide +kernel, by decide +kernel⟩
set_option maxRecDepth 20000 in
theorem mg_125 : m_good (yX6_homeFrom, cX6_homeFrom, 2, (some .int), 6, 0, 0, []) := ⟨by decide +kernel, m_at 871 rfl rfl, rfl, m_at 47 rfl rfl, by decide +kernel, by decide +kernel⟩
set_option maxRecDepth 20000 in
theorem mg_126 : m_good (yX6_home, cX6_home, 8, (some .int), 6, 4, 97, []) := ⟨by decide +kernel, m_at 855 rfl rfl, rfl, m_at 47 rfl rfl, by decide +kernel, by decide +kernel⟩
set_option maxRecDepth 20000 in
theorem mg_127 : m_good (yX6_firstHome, cX6_firstHome, 7, (some .int), 6, 2, 43, []) := ⟨by decide +kernel, m_at 875 rfl rfl, rfl, m_at 47 rfl rfl, by decide +kernel, by decide +kernel⟩
set_option maxRecDepth 20000 in
theorem mg_128 : m_good (yX6_ones, cX6_ones, 3, (some .int), 6, 4, 97, []) := ⟨by decide +kernel, m_at 882 rfl rfl, rfl, m_at 47 rfl rfl, by decide +kernel, by decide +kernel⟩
set_option maxRecDepth 20000 in
theorem mg_129 : m_good (yX6_isInBy, cX6_isInBy, 4, (some .int), 6, 3, 74, []) := ⟨by decide +kernel, m_at 890 rfl rfl, rfl, m_at 47 rfl rfl, by decide +kernel, by decide +kernel⟩
set_option maxRecDepth 20000 in
theorem mg_130 : m_good (yX6_odds, cX6_odds, 9, (some .int), 6, 4, 97, []) := ⟨by decide +kernel, m_at 886 rfl rfl, rfl, m_at 47 rfl rfl, by decide +kernel, by decide +kernel⟩
set_option maxRecDepth 20000 in
theorem mg_131 : m_good (yX6_lay, cX6_lay, 4, (some .int), 6, 2, 44, []) := ⟨by decide +kernel, m_at 894 rfl rfl, rfl, m_at 47 rfl rfl, by decide +kernel, by decide +kernel⟩
set_option maxRecDepth 20000 in
theorem mg_132 : m_good (yX6_forget, cX6_forget, 2, (some .int), 6, 0, 0, []) := ⟨by decide +kernel, m_at 898 rfl rfl, rfl, m_at 47 rfl rfl, by decide +kernel, by decide +kernel⟩
set_option maxRecDepth 20000 in
theorem mg_133 : m_good (yX6_which, cX6_which, 10, (some .int), 6, 3, 74, []) := ⟨by decide +kernel, m_at 902 rfl rfl, rfl, m_at 47 rfl rfl, by decide +kernel, by decide +kernel⟩
set_option maxRecDepth 20000 in
theorem mg_134 : m_good (yX6_best, cX6_best, 6, (some .int), 6, 4, 97, []) := ⟨by decide +kernel, m_at 906 rfl rfl, rfl, m_at 47 rfl rfl, by decide +kernel, by decide +kernel⟩
set_option maxRecDepth 20000 in
theorem mg_135 : m_good (yX6_homeWith, cX6_homeWith, 5, (some .int), 6, 4, 97, []) := ⟨by decide +kernel, m_at 914 rfl rfl, rfl, m_at 47 rfl rfl, by decide +kernel, by decide +kernel⟩
set_option maxRecDepth 20000 in
theorem mg_136 : m_good (yX6_board, cX6_board, 8, (some .int), 6, 5, 121, []) := ⟨by decide +kernel, m_at 910 rfl rfl, rfl, m_at 47 rfl rfl, by decide +kernel, by decide +kernel⟩
set_option maxRecDepth 20000 in
theorem mg_137 : m_good (yX6_rateOf, cX6_rateOf, 5, (some .int), 6, 1, 20, []) := ⟨by decide +kernel, m_at 922 rfl rfl, rfl, m_at 47 rfl rfl, by decide +kernel, by decide +kernel⟩
set_option maxRecDepth 20000 in
theorem mg_138 : m_good (yX6_rate, cX6_rate, 4, (some .int), 6, 2, 44, []) := ⟨by decide +kernel, m_at 918 rfl rfl, rfl, m_at 47 rfl rfl, by decide +kernel, by decide +kernel⟩
set_option maxRecDepth 20000 in
theorem mg_139 : m_good (yX6_keep, cX6_keep, 2, (some .int), 6, 1, 24, []) := ⟨by decide +kernel, m_at 932 rfl rfl, rfl, m_at 47 rfl rfl, by decide +kernel, by decide +kernel⟩
set_option maxRecDepth 20000 in
theorem mg_140 : m_good (yX6_back, cX6_back, 2, (some .int), 6, 1, 24, []) := ⟨by decide +kernel, m_at 936 rfl rfl, rfl, m_at 47 rfl rfl, by decide +kernel, by decide +kernel⟩
set_option maxRecDepth 20000 in
theorem mg_141 : m_good (yX6_count, cX6_count, 2, (some .int), 6, 1, 20, []) := ⟨by decide +kernel, m_at 940 rfl rfl, rfl, m_at 47 rfl rfl, by decide +kernel, by decide +kernel⟩
set_option maxRecDepth 20000 in
theorem mg_142 : m_good (yX6_trace, cX6_trace, 1, (some .long), 6, 0, 0, []) := ⟨by decide +kernel, m_at 944 rfl rfl, rfl, m_at 47 rfl rfl, by decide +kernel, by decide +kernel⟩
set_option maxRecDepth 20000 in
theorem mg_143 : m_good (yJ13_bitCount_95d88, cJ13_bitCount_95d88, 2, (some .int), 8, 0, 0, [0]) := ⟨by decide +kernel, m_at 457 rfl rfl, rfl, m_at 49 rfl rfl, by decide +kernel, by decide +kernel⟩
set_option maxRecDepth 20000 in
theorem mG_0 : ∀ q ∈ mT_0, m_good q := List.forall_mem_cons.mpr ⟨mg_0, List.forall_mem_cons.mpr ⟨mg_1, List.forall_mem_cons.mpr ⟨mg_2, List.forall_mem_cons.mpr ⟨mg_3, List.forall_mem_cons.mpr ⟨mg_4, List.forall_mem_cons.mpr ⟨mg_5, List.forall_mem_cons.mpr ⟨mg_6, List.forall_mem_cons.mpr ⟨mg_7, List.forall_mem_cons.mpr ⟨mg_8, List.forall_mem_cons.mpr ⟨mg_9, List.forall_mem_cons.mpr ⟨mg_10, List.forall_mem_cons.mpr ⟨mg_11, List.forall_mem_cons.mpr ⟨mg_12, List.forall_mem_cons.mpr ⟨mg_13, List.forall_mem_cons.mpr ⟨mg_14, List.forall_mem_cons.mpr ⟨mg_15, fun _ h => absurd h List.not_mem_nil⟩⟩⟩⟩⟩⟩⟩⟩⟩⟩⟩⟩⟩⟩⟩⟩
set_option maxRecDepth 20000 in
theorem mG_1 : ∀ q ∈ mT_1, m_good q := List.forall_mem_cons.mpr ⟨mg_16, List.forall_mem_cons.mpr ⟨mg_17, List.forall_mem_cons.mpr ⟨mg_18, List.forall_mem_cons.mpr ⟨mg_19, List.forall_mem_cons.mpr ⟨mg_20, List.forall_mem_cons.mpr ⟨mg_21, List.forall_mem_cons.mpr ⟨mg_22, List.forall_mem_cons.mpr ⟨mg_23, List.forall_mem_cons.mpr ⟨mg_24, List.forall_mem_cons.mpr ⟨mg_25, List.forall_mem_cons.mpr ⟨mg_26, List.forall_mem_cons.mpr ⟨mg_27, List.forall_mem_cons.mpr ⟨mg_28, List.forall_mem_cons.mpr ⟨mg_29, List.forall_mem_cons.mpr ⟨mg_30, List.forall_mem_cons.mpr ⟨mg_31, fun _ h => absurd h List.not_mem_nil⟩⟩⟩⟩⟩⟩⟩⟩⟩⟩⟩⟩⟩⟩⟩⟩
set_option maxRecDepth 20000 in
theorem mG_2 : ∀ q ∈ mT_2, m_good q := List.forall_mem_cons.mpr ⟨mg_32, List.forall_mem_cons.mpr ⟨mg_33, List.forall_mem_cons.mpr ⟨mg_34, List.forall_mem_cons.mpr ⟨mg_35, List.forall_mem_cons.mpr ⟨mg_36, List.forall_mem_cons.mpr ⟨mg_37, List.forall_mem_cons.mpr ⟨mg_38, List.forall_mem_cons.mpr ⟨mg_39, List.forall_mem_cons.mpr ⟨mg_40, List.forall_mem_cons.mpr ⟨mg_41, List.forall_mem_cons.mpr ⟨mg_42, List.forall_mem_cons.mpr ⟨mg_43, List.forall_mem_cons.mpr ⟨mg_44, List.forall_mem_cons.mpr ⟨mg_45, List.forall_mem_cons.mpr ⟨mg_46, List.forall_mem_cons.mpr ⟨mg_47, fun _ h => absurd h List.not_mem_nil⟩⟩⟩⟩⟩⟩⟩⟩⟩⟩⟩⟩⟩⟩⟩⟩
set_option maxRecDepth 20000 in
theorem mG_3 : ∀ q ∈ mT_3, m_good q := List.forall_mem_cons.mpr ⟨mg_48, List.forall_mem_cons.mpr ⟨mg_49, List.forall_mem_cons.mpr ⟨mg_50, List.forall_mem_cons.mpr ⟨mg_51, List.forall_mem_cons.mpr ⟨mg_52, List.forall_mem_cons.mpr ⟨mg_53, List.forall_mem_cons.mpr ⟨mg_54, List.forall_mem_cons.mpr ⟨mg_55, List.forall_mem_cons.mpr ⟨mg_56, List.forall_mem_cons.mpr ⟨mg_57, List.forall_mem_cons.mpr ⟨mg_58, List.forall_mem_cons.mpr ⟨mg_59, List.forall_mem_cons.mpr ⟨mg_60, List.forall_mem_cons.mpr ⟨mg_61, List.forall_mem_cons.mpr ⟨mg_62, List.forall_mem_cons.mpr ⟨mg_63, fun _ h => absurd h List.not_mem_nil⟩⟩⟩⟩⟩⟩⟩⟩⟩⟩⟩⟩⟩⟩⟩⟩
set_option maxRecDepth 20000 in
theorem mG_4 : ∀ q ∈ mT_4, m_good q := List.forall_mem_cons.mpr ⟨mg_64, List.forall_mem_cons.mpr ⟨mg_65, List.forall_mem_cons.mpr ⟨mg_66, List.forall_mem_cons.mpr ⟨mg_67, List.forall_mem_cons.mpr ⟨mg_68, List.forall_mem_cons.mpr ⟨mg_69, List.forall_mem_cons.mpr ⟨mg_70, List.forall_mem_cons.mpr ⟨mg_71, List.forall_mem_cons.mpr ⟨mg_72, List.forall_mem_cons.mpr ⟨mg_73, List.forall_mem_cons.mpr ⟨mg_74, List.forall_mem_cons.mpr ⟨mg_75, List.forall_mem_cons.mpr ⟨mg_76, List.forall_mem_cons.mpr ⟨mg_77, List.forall_mem_cons.mpr ⟨mg_78, List.forall_mem_cons.mpr ⟨mg_79, fun _ h => absurd h List.not_mem_nil⟩⟩⟩⟩⟩⟩⟩⟩⟩⟩⟩⟩⟩⟩⟩⟩
set_option maxRecDepth 20000 in
theorem mG_5 : ∀ q ∈ mT_5, m_good q := List.forall_mem_cons.mpr ⟨mg_80, List.forall_mem_cons.mpr ⟨mg_81, List.forall_mem_cons.mpr ⟨mg_82, List.forall_mem_cons.mpr ⟨mg_83, List.forall_mem_cons.mpr ⟨mg_84, List.forall_mem_cons.mpr ⟨mg_85, List.forall_mem_cons.mpr ⟨mg_86, List.forall_mem_cons.mpr ⟨mg_87, List.forall_mem_cons.mpr ⟨mg_88, List.forall_mem_cons.mpr ⟨mg_89, List.forall_mem_cons.mpr ⟨mg_90, List.forall_mem_cons.mpr ⟨mg_91, List.forall_mem_cons.mpr ⟨mg_92, List.forall_mem_cons.mpr ⟨mg_93, List.forall_mem_cons.mpr ⟨mg_94, List.forall_mem_cons.mpr ⟨mg_95, fun _ h => absurd h List.not_mem_nil⟩⟩⟩⟩⟩⟩⟩⟩⟩⟩⟩⟩⟩⟩⟩⟩
set_option maxRecDepth 20000 in
theorem mG_6 : ∀ q ∈ mT_6, m_good q := List.forall_mem_cons.mpr ⟨mg_96, List.forall_mem_cons.mpr ⟨mg_97, List.forall_mem_cons.mpr ⟨mg_98, List.forall_mem_cons.mpr ⟨mg_99, List.forall_mem_cons.mpr ⟨mg_100, List.forall_mem_cons.mpr ⟨mg_101, List.forall_mem_cons.mpr ⟨mg_102, List.forall_mem_cons.mpr ⟨mg_103, List.forall_mem_cons.mpr ⟨mg_104, List.forall_mem_cons.mpr ⟨mg_105, List.forall_mem_cons.mpr ⟨mg_106, List.forall_mem_cons.mpr ⟨mg_107, List.forall_mem_cons.mpr ⟨mg_108, List.forall_mem_cons.mpr ⟨mg_109, List.forall_mem_cons.mpr ⟨mg_110, List.forall_mem_cons.mpr ⟨mg_111, fun _ h => absurd h List.not_mem_nil⟩⟩⟩⟩⟩⟩⟩⟩⟩⟩⟩⟩⟩⟩⟩⟩
set_option maxRecDepth 20000 in
theorem mG_7 : ∀ q ∈ mT_7, m_good q := List.forall_mem_cons.mpr ⟨mg_112, List.forall_mem_cons.mpr ⟨mg_113, List.forall_mem_cons.mpr ⟨mg_114, List.forall_mem_cons.mpr ⟨mg_115, List.forall_mem_cons.mpr ⟨mg_116, List.forall_mem_cons.mpr ⟨mg_117, List.forall_mem_cons.mpr ⟨mg_118, List.forall_mem_cons.mpr ⟨mg_119, List.forall_mem_cons.mpr ⟨mg_120, List.forall_mem_cons.mpr ⟨mg_121, List.forall_mem_cons.mpr ⟨mg_122, List.forall_mem_cons.mpr ⟨mg_123, List.forall_mem_cons.mpr ⟨mg_124, List.forall_mem_cons.mpr ⟨mg_125, List.forall_mem_cons.mpr ⟨mg_126, List.forall_mem_cons.mpr ⟨mg_127, fun _ h => absurd h List.not_mem_nil⟩⟩⟩⟩⟩⟩⟩⟩⟩⟩⟩⟩⟩⟩⟩⟩
set_option maxRecDepth 20000 in
theorem mG_8 : ∀ q ∈ mT_8, m_good q := List.forall_mem_cons.mpr ⟨mg_128, List.forall_mem_cons.mpr ⟨mg_129, List.forall_mem_cons.mpr ⟨mg_130, List.forall_mem_cons.mpr ⟨mg_131, List.forall_mem_cons.mpr ⟨mg_132, List.forall_mem_cons.mpr ⟨mg_133, List.forall_mem_cons.mpr ⟨mg_134, List.forall_mem_cons.mpr ⟨mg_135, List.forall_mem_cons.mpr ⟨mg_136, List.forall_mem_cons.mpr ⟨mg_137, List.forall_mem_cons.mpr ⟨mg_138, List.forall_mem_cons.mpr ⟨mg_139, List.forall_mem_cons.mpr ⟨mg_140, List.forall_mem_cons.mpr ⟨mg_141, List.forall_mem_cons.mpr ⟨mg_142, List.forall_mem_cons.mpr ⟨mg_143, fun _ h => absurd h List.not_mem_nil⟩⟩⟩⟩⟩⟩⟩⟩⟩⟩⟩⟩⟩⟩⟩⟩
set_option maxRecDepth 20000 in
theorem mT_ok : ∀ q ∈ mTX, m_good q := List.forall_mem_append.mpr ⟨mG_0, List.forall_mem_append.mpr ⟨mG_1, List.forall_mem_append.mpr ⟨mG_2, List.forall_mem_append.mpr ⟨mG_3, List.forall_mem_append.mpr ⟨mG_4, List.forall_mem_append.mpr ⟨mG_5, List.forall_mem_append.mpr ⟨mG_6, List.forall_mem_append.mpr ⟨mG_7, mG_8⟩⟩⟩⟩⟩⟩⟩⟩
def m_callOk (own : String) (q : Nat × Nat × Nat × Nat × MethodName) : Prop := (m_e q.2.1).1 = q.2.2.2.2 ∧ (q.2.2.1 < 5 → q.2.1 < 144) ∧ (parseMethodDescriptor q.2.2.2.2.desc).map (fun d => d.parameters.length) = some q.2.2.2.1 ∧
  ((q.2.2.1 = 0 ∧ Cond.methodLink own q.1 q.2.2.2.2 ∈ m_gw ∧ Cond.instanceMethod q.2.2.2.2 ∈ m_gw ∧ Cond.selects q.2.2.2.2.cls q.2.2.2.2 q.2.2.2.2 ∈ m_gw) ∨
   (q.2.2.1 = 1 ∧ Cond.methodLink own q.1 q.2.2.2.2 ∈ m_gw ∧ Cond.static q.2.2.2.2 ∈ m_gw) ∨
   (q.2.2.1 = 2 ∧ Cond.methodLink own q.1 q.2.2.2.2 ∈ m_gw ∧ q.2.2.2.2.name = "<init>" ∧ Cond.instanceMethod q.2.2.2.2 ∈ m_gw ∧ (m_e q.2.1).2.2.2.1 = none) ∨
   (q.2.2.1 = 3 ∧ (∃ h, Cond.methodLinkNest own q.1 q.2.2.2.2 h ∈ m_nw) ∧ q.2.2.2.2.name = "<init>" ∧ Cond.instanceMethod q.2.2.2.2 ∈ m_gw ∧ (m_e q.2.1).2.2.2.1 = none) ∨
   (q.2.2.1 = 4 ∧ (∃ h, Cond.methodLinkNest own q.1 q.2.2.2.2 h ∈ m_nw) ∧ Cond.static q.2.2.2.2 ∈ m_gw) ∨
   (q.2.2.1 = 5 ∧ Cond.methodLink own q.1 Lib.Math.max.name ∈ m_gw) ∨ (q.2.2.1 = 6 ∧ Cond.methodLink own q.1 Lib.Math.min.name ∈ m_gw))
set_option maxRecDepth 20000 in
theorem mk_0_0 : m_callOk RX0 (15, 1, 0, 0, yX0_blank) := ⟨rfl, (fun _ => by decide), by decide +kernel, Or.inl ⟨rfl, m_at 100 rfl rfl, m_at 101 rfl rfl, m_at 102 rfl rfl⟩⟩
set_option maxRecDepth 20000 in
theorem mk_0_1 : m_callOk RX0 (49, 4, 0, 1, yX0_kindOf) := ⟨rfl, (fun _ => by decide), by decide +kernel, Or.inl ⟨rfl, m_at 340 rfl rfl, m_at 341 rfl rfl, m_at 342 rfl rfl⟩⟩
set_option maxRecDepth 20000 in
theorem mk_0_2 : m_callOk RX0 (45, 2, 0, 2, yX0_placeOf) := ⟨rfl, (fun _ => by decide), by decide +kernel, Or.inl ⟨rfl, m_at 454 rfl rfl, m_at 333 rfl rfl, m_at 334 rfl rfl⟩⟩
set_option maxRecDepth 20000 in
theorem mK_0 : ∀ q ∈ m_calls_0, m_callOk RX0 q := List.forall_mem_cons.mpr ⟨mk_0_0, List.forall_mem_cons.mpr ⟨mk_0_1, List.forall_mem_cons.mpr ⟨mk_0_2, fun _ h => absurd h List.not_mem_nil⟩⟩⟩
set_option maxRecDepth 20000 in
theorem mk_1_0 : m_callOk RX1 (38, 14, 0, 1, yX1_scoreOf) := ⟨rfl, (fun _ => by decide), by decide +kernel, Or.inl ⟨rfl, m_at 393 rfl rfl, m_at 375 rfl rfl, m_at 376 rfl rfl⟩⟩
set_option maxRecDepth 20000 in
theorem mK_1 : ∀ q ∈ m_calls_1, m_callOk RX1 q := List.forall_mem_cons.mpr ⟨mk_1_0, fun _ h => absurd h List.not_mem_nil⟩
set_option maxRecDepth 20000 in
theorem mk_2_0 : m_callOk RX2 (24, 24, 3, 0, yX3_init) := ⟨rfl, (fun _ => by decide), by decide +kernel, Or.inr (Or.inr (Or.inr (Or.inl ⟨rfl, ⟨_, List.mem_of_getElem? (i := 4) rfl⟩, rfl, m_at 183 rfl rfl, rfl⟩)))⟩
set_option maxRecDepth 20000 in
theorem mk_2_1 : m_callOk RX2 (29, 20, 0, 4, yX2_spread) := ⟨rfl, (fun _ => by decide), by decide +kernel, Or.inl ⟨rfl, m_at 481 rfl rfl, m_at 482 rfl rfl, m_at 483 rfl rfl⟩⟩
set_option maxRecDepth 20000 in
theorem mk_2_2 : m_callOk RX2 (36, 3, 0, 1, yX0_isOn) := ⟨rfl, (fun _ => by decide), by decide +kernel, Or.inl ⟨rfl, m_at 485 rfl rfl, m_at 451 rfl rfl, m_at 452 rfl rfl⟩⟩
set_option maxRecDepth 20000 in
theorem mk_2_3 : m_callOk RX2 (42, 4, 0, 1, yX0_kindOf) := ⟨rfl, (fun _ => by decide), by decide +kernel, Or.inl ⟨rfl, m_at 486 rfl rfl, m_at 341 rfl rfl, m_at 342 rfl rfl⟩⟩
set_option maxRecDepth 20000 in
theorem mk_2_4 : m_callOk RX2 (50, 21, 0, 5, yX2_course) := ⟨rfl, (fun _ => by decide), by decide +kernel, Or.inl ⟨rfl, m_at 487 rfl rfl, m_at 488 rfl rfl, m_at 489 rfl rfl⟩⟩
set_option maxRecDepth 20000 in
theorem mk_2_5 : m_callOk RX2 (58, 25, 0, 3, yX3_start) := ⟨rfl, (fun _ => by decide), by decide +kernel, Or.inl ⟨rfl, m_at 491 rfl rfl, m_at 410 rfl rfl, m_at 411 rfl rfl⟩⟩
set_option maxRecDepth 20000 in
theorem mk_2_6 : m_callOk RX2 (62, 26, 0, 2, yX3_advance) := ⟨rfl, (fun _ => by decide), by decide +kernel, Or.inl ⟨rfl, m_at 492 rfl rfl, m_at 414 rfl rfl, m_at 415 rfl rfl⟩⟩
set_option maxRecDepth 20000 in
theorem mk_2_7 : m_callOk RX2 (33, 22, 0, 0, yX2_measure) := ⟨rfl, (fun _ => by decide), by decide +kernel, Or.inl ⟨rfl, m_at 494 rfl rfl, m_at 495 rfl rfl, m_at 496 rfl rfl⟩⟩
set_option maxRecDepth 20000 in
theorem mK_2 : ∀ q ∈ m_calls_2, m_callOk RX2 q := List.forall_mem_cons.mpr ⟨mk_2_0, List.forall_mem_cons.mpr ⟨mk_2_1, List.forall_mem_cons.mpr ⟨mk_2_2, List.forall_mem_cons.mpr ⟨mk_2_3, List.forall_mem_cons.mpr ⟨mk_2_4, List.forall_mem_cons.mpr ⟨mk_2_5, List.forall_mem_cons.mpr ⟨mk_2_6, List.forall_mem_cons.mpr ⟨mk_2_7, fun _ h => absurd h List.not_mem_nil⟩⟩⟩⟩⟩⟩⟩⟩
set_option maxRecDepth 20000 in
theorem mk_3_0 : m_callOk RX3 (39, 25, 0, 3, yX3_start) := ⟨rfl, (fun _ => by decide), by decide +kernel, Or.inl ⟨rfl, m_at 409 rfl rfl, m_at 410 rfl rfl, m_at 411 rfl rfl⟩⟩
set_option maxRecDepth 20000 in
theorem mk_3_1 : m_callOk RX3 (43, 26, 0, 2, yX3_advance) := ⟨rfl, (fun _ => by decide), by decide +kernel, Or.inl ⟨rfl, m_at 413 rfl rfl, m_at 414 rfl rfl, m_at 415 rfl rfl⟩⟩
set_option maxRecDepth 20000 in
theorem mk_3_2 : m_callOk RX3 (25, 5, 0, 2, yX0_beside) := ⟨rfl, (fun _ => by decide), by decide +kernel, Or.inl ⟨rfl, m_at 417 rfl rfl, m_at 418 rfl rfl, m_at 419 rfl rfl⟩⟩
set_option maxRecDepth 20000 in
theorem mk_3_3 : m_callOk RX3 (31, 4, 0, 1, yX0_kindOf) := ⟨rfl, (fun _ => by decide), by decide +kernel, Or.inl ⟨rfl, m_at 421 rfl rfl, m_at 341 rfl rfl, m_at 342 rfl rfl⟩⟩
set_option maxRecDepth 20000 in
theorem mk_3_4 : m_callOk RX3 (35, 7, 0, 1, yX0_isOpen) := ⟨rfl, (fun _ => by decide), by decide +kernel, Or.inl ⟨rfl, m_at 422 rfl rfl, m_at 386 rfl rfl, m_at 387 rfl rfl⟩⟩
set_option maxRecDepth 20000 in
theorem mk_3_5 : m_callOk RX3 (47, 50, 4, 1, yX5_answerOf) := ⟨rfl, (fun _ => by decide), by decide +kernel, Or.inr (Or.inr (Or.inr (Or.inr (Or.inl ⟨rfl, ⟨_, List.mem_of_getElem? (i := 5) rfl⟩, m_at 383 rfl rfl⟩))))⟩
set_option maxRecDepth 20000 in
theorem mK_3 : ∀ q ∈ m_calls_3, m_callOk RX3 q := List.forall_mem_cons.mpr ⟨mk_3_0, List.forall_mem_cons.mpr ⟨mk_3_1, List.forall_mem_cons.mpr ⟨mk_3_2, List.forall_mem_cons.mpr ⟨mk_3_3, List.forall_mem_cons.mpr ⟨mk_3_4, List.forall_mem_cons.mpr ⟨mk_3_5, fun _ h => absurd h List.not_mem_nil⟩⟩⟩⟩⟩⟩
set_option maxRecDepth 20000 in
theorem mk_4_0 : m_callOk RX4 (19, 1, 0, 0, yX0_blank) := ⟨rfl, (fun _ => by decide), by decide +kernel, Or.inl ⟨rfl, m_at 293 rfl rfl, m_at 101 rfl rfl, m_at 102 rfl rfl⟩⟩
set_option maxRecDepth 20000 in
theorem mk_4_1 : m_callOk RX4 (37, 39, 0, 0, yX4_read) := ⟨rfl, (fun _ => by decide), by decide +kernel, Or.inl ⟨rfl, m_at 294 rfl rfl, m_at 295 rfl rfl, m_at 296 rfl rfl⟩⟩
set_option maxRecDepth 20000 in
theorem mk_4_2 : m_callOk RX4 (104, 40, 1, 1, yX4_isDigit) := ⟨rfl, (fun _ => by decide), by decide +kernel, Or.inr (Or.inl ⟨rfl, m_at 298 rfl rfl, m_at 299 rfl rfl⟩)⟩
set_option maxRecDepth 20000 in
theorem mk_4_3 : m_callOk RX4 (108, 145, 6, 2, yJ9_min_7cf53) := ⟨rfl, (fun h => absurd h (by decide)), by decide +kernel, Or.inr (Or.inr (Or.inr (Or.inr (Or.inr (Or.inr ⟨rfl, m_at 301 rfl rfl⟩)))))⟩
set_option maxRecDepth 20000 in
theorem mk_4_4 : m_callOk RX4 (43, 31, 0, 1, yX4_item) := ⟨rfl, (fun _ => by decide), by decide +kernel, Or.inl ⟨rfl, m_at 304 rfl rfl, m_at 305 rfl rfl, m_at 306 rfl rfl⟩⟩
set_option maxRecDepth 20000 in
theorem mk_4_5 : m_callOk RX4 (50, 32, 0, 1, yX4_width) := ⟨rfl, (fun _ => by decide), by decide +kernel, Or.inl ⟨rfl, m_at 308 rfl rfl, m_at 309 rfl rfl, m_at 310 rfl rfl⟩⟩
set_option maxRecDepth 20000 in
theorem mk_4_6 : m_callOk RX4 (65, 37, 0, 2, yX4_number) := ⟨rfl, (fun _ => by decide), by decide +kernel, Or.inl ⟨rfl, m_at 312 rfl rfl, m_at 313 rfl rfl, m_at 314 rfl rfl⟩⟩
set_option maxRecDepth 20000 in
theorem mk_4_7 : m_callOk RX4 (75, 38, 0, 0, yX4_ends) := ⟨rfl, (fun _ => by decide), by decide +kernel, Or.inl ⟨rfl, m_at 316 rfl rfl, m_at 317 rfl rfl, m_at 318 rfl rfl⟩⟩
set_option maxRecDepth 20000 in
theorem mk_4_8 : m_callOk RX4 (53, 33, 0, 1, yX4_row) := ⟨rfl, (fun _ => by decide), by decide +kernel, Or.inl ⟨rfl, m_at 320 rfl rfl, m_at 321 rfl rfl, m_at 322 rfl rfl⟩⟩
set_option maxRecDepth 20000 in
theorem mk_4_9 : m_callOk RX4 (85, 8, 0, 2, yX0_put) := ⟨rfl, (fun _ => by decide), by decide +kernel, Or.inl ⟨rfl, m_at 324 rfl rfl, m_at 325 rfl rfl, m_at 326 rfl rfl⟩⟩
set_option maxRecDepth 20000 in
theorem mk_4_10 : m_callOk RX4 (56, 34, 0, 1, yX4_teePlace) := ⟨rfl, (fun _ => by decide), by decide +kernel, Or.inl ⟨rfl, m_at 328 rfl rfl, m_at 329 rfl rfl, m_at 330 rfl rfl⟩⟩
set_option maxRecDepth 20000 in
theorem mk_4_11 : m_callOk RX4 (88, 2, 0, 2, yX0_placeOf) := ⟨rfl, (fun _ => by decide), by decide +kernel, Or.inl ⟨rfl, m_at 332 rfl rfl, m_at 333 rfl rfl, m_at 334 rfl rfl⟩⟩
set_option maxRecDepth 20000 in
theorem mk_4_12 : m_callOk RX4 (92, 9, 0, 1, yX0_mayBeTee) := ⟨rfl, (fun _ => by decide), by decide +kernel, Or.inl ⟨rfl, m_at 336 rfl rfl, m_at 337 rfl rfl, m_at 338 rfl rfl⟩⟩
set_option maxRecDepth 20000 in
theorem mk_4_13 : m_callOk RX4 (59, 35, 0, 1, yX4_sails) := ⟨rfl, (fun _ => by decide), by decide +kernel, Or.inl ⟨rfl, m_at 344 rfl rfl, m_at 345 rfl rfl, m_at 346 rfl rfl⟩⟩
set_option maxRecDepth 20000 in
theorem mk_4_14 : m_callOk RX4 (62, 36, 0, 1, yX4_players) := ⟨rfl, (fun _ => by decide), by decide +kernel, Or.inl ⟨rfl, m_at 348 rfl rfl, m_at 349 rfl rfl, m_at 350 rfl rfl⟩⟩
set_option maxRecDepth 20000 in
theorem mK_4 : ∀ q ∈ m_calls_4, m_callOk RX4 q := List.forall_mem_cons.mpr ⟨mk_4_0, List.forall_mem_cons.mpr ⟨mk_4_1, List.forall_mem_cons.mpr ⟨mk_4_2, List.forall_mem_cons.mpr ⟨mk_4_3, List.forall_mem_cons.mpr ⟨mk_4_4, List.forall_mem_cons.mpr ⟨mk_4_5, List.forall_mem_cons.mpr ⟨mk_4_6, List.forall_mem_cons.mpr ⟨mk_4_7, List.forall_mem_cons.mpr ⟨mk_4_8, List.forall_mem_cons.mpr ⟨mk_4_9, List.forall_mem_cons.mpr ⟨mk_4_10, List.forall_mem_cons.mpr ⟨mk_4_11, List.forall_mem_cons.mpr ⟨mk_4_12, List.forall_mem_cons.mpr ⟨mk_4_13, List.forall_mem_cons.mpr ⟨mk_4_14, fun _ h => absurd h List.not_mem_nil⟩⟩⟩⟩⟩⟩⟩⟩⟩⟩⟩⟩⟩⟩⟩
set_option maxRecDepth 20000 in
theorem mk_5_0 : m_callOk RX5 (11, 28, 3, 0, yX4_init) := ⟨rfl, (fun _ => by decide), by decide +kernel, Or.inr (Or.inr (Or.inr (Or.inl ⟨rfl, ⟨_, List.mem_of_getElem? (i := 0) rfl⟩, rfl, m_at 61 rfl rfl, rfl⟩)))⟩
set_option maxRecDepth 20000 in
theorem mk_5_1 : m_callOk RX5 (18, 0, 2, 0, yX0_init) := ⟨rfl, (fun _ => by decide), by decide +kernel, Or.inr (Or.inr (Or.inl ⟨rfl, m_at 96 rfl rfl, rfl, m_at 97 rfl rfl, rfl⟩))⟩
set_option maxRecDepth 20000 in
theorem mk_5_2 : m_callOk RX5 (28, 10, 3, 0, yX1_init) := ⟨rfl, (fun _ => by decide), by decide +kernel, Or.inr (Or.inr (Or.inr (Or.inl ⟨rfl, ⟨_, List.mem_of_getElem? (i := 1) rfl⟩, rfl, m_at 152 rfl rfl, rfl⟩)))⟩
set_option maxRecDepth 20000 in
theorem mk_5_3 : m_callOk RX5 (50, 24, 3, 0, yX3_init) := ⟨rfl, (fun _ => by decide), by decide +kernel, Or.inr (Or.inr (Or.inr (Or.inl ⟨rfl, ⟨_, List.mem_of_getElem? (i := 2) rfl⟩, rfl, m_at 183 rfl rfl, rfl⟩)))⟩
set_option maxRecDepth 20000 in
theorem mk_5_4 : m_callOk RX5 (57, 17, 3, 0, yX2_init) := ⟨rfl, (fun _ => by decide), by decide +kernel, Or.inr (Or.inr (Or.inr (Or.inl ⟨rfl, ⟨_, List.mem_of_getElem? (i := 3) rfl⟩, rfl, m_at 207 rfl rfl, rfl⟩)))⟩
set_option maxRecDepth 20000 in
theorem mk_5_5 : m_callOk RX5 (62, 11, 0, 1, yX1_begin) := ⟨rfl, (fun _ => by decide), by decide +kernel, Or.inl ⟨rfl, m_at 226 rfl rfl, m_at 227 rfl rfl, m_at 228 rfl rfl⟩⟩
set_option maxRecDepth 20000 in
theorem mk_5_6 : m_callOk RX5 (66, 29, 0, 1, yX4_add) := ⟨rfl, (fun _ => by decide), by decide +kernel, Or.inl ⟨rfl, m_at 277 rfl rfl, m_at 278 rfl rfl, m_at 279 rfl rfl⟩⟩
set_option maxRecDepth 20000 in
theorem mk_5_7 : m_callOk RX5 (74, 30, 0, 1, yX4_tell) := ⟨rfl, (fun _ => by decide), by decide +kernel, Or.inl ⟨rfl, m_at 289 rfl rfl, m_at 290 rfl rfl, m_at 291 rfl rfl⟩⟩
set_option maxRecDepth 20000 in
theorem mk_5_8 : m_callOk RX5 (78, 45, 0, 0, yX5_beginAnew) := ⟨rfl, (fun _ => by decide), by decide +kernel, Or.inl ⟨rfl, m_at 352 rfl rfl, m_at 354 rfl rfl, m_at 0 rfl rfl⟩⟩
set_option maxRecDepth 20000 in
theorem mk_5_9 : m_callOk RX5 (87, 2, 0, 2, yX0_placeOf) := ⟨rfl, (fun _ => by decide), by decide +kernel, Or.inl ⟨rfl, m_at 360 rfl rfl, m_at 333 rfl rfl, m_at 334 rfl rfl⟩⟩
set_option maxRecDepth 20000 in
theorem mk_5_10 : m_callOk RX5 (91, 47, 0, 1, yX5_kindNow) := ⟨rfl, (fun _ => by decide), by decide +kernel, Or.inl ⟨rfl, m_at 361 rfl rfl, m_at 363 rfl rfl, m_at 1 rfl rfl⟩⟩
set_option maxRecDepth 20000 in
theorem mk_5_11 : m_callOk RX5 (95, 13, 0, 1, yX1_hasPlank) := ⟨rfl, (fun _ => by decide), by decide +kernel, Or.inl ⟨rfl, m_at 365 rfl rfl, m_at 366 rfl rfl, m_at 367 rfl rfl⟩⟩
set_option maxRecDepth 20000 in
theorem mk_5_12 : m_callOk RX5 (99, 4, 0, 1, yX0_kindOf) := ⟨rfl, (fun _ => by decide), by decide +kernel, Or.inl ⟨rfl, m_at 369 rfl rfl, m_at 341 rfl rfl, m_at 342 rfl rfl⟩⟩
set_option maxRecDepth 20000 in
theorem mk_5_13 : m_callOk RX5 (105, 14, 0, 1, yX1_scoreOf) := ⟨rfl, (fun _ => by decide), by decide +kernel, Or.inl ⟨rfl, m_at 374 rfl rfl, m_at 375 rfl rfl, m_at 376 rfl rfl⟩⟩
set_option maxRecDepth 20000 in
theorem mk_5_14 : m_callOk RX5 (117, 50, 1, 1, yX5_answerOf) := ⟨rfl, (fun _ => by decide), by decide +kernel, Or.inr (Or.inl ⟨rfl, m_at 382 rfl rfl, m_at 383 rfl rfl⟩)⟩
set_option maxRecDepth 20000 in
theorem mk_5_15 : m_callOk RX5 (123, 7, 0, 1, yX0_isOpen) := ⟨rfl, (fun _ => by decide), by decide +kernel, Or.inl ⟨rfl, m_at 385 rfl rfl, m_at 386 rfl rfl, m_at 387 rfl rfl⟩⟩
set_option maxRecDepth 20000 in
theorem mk_5_16 : m_callOk RX5 (126, 15, 0, 1, yX1_leader) := ⟨rfl, (fun _ => by decide), by decide +kernel, Or.inl ⟨rfl, m_at 389 rfl rfl, m_at 390 rfl rfl, m_at 391 rfl rfl⟩⟩
set_option maxRecDepth 20000 in
theorem mk_5_17 : m_callOk RX5 (129, 52, 1, 2, yX5_isStroke) := ⟨rfl, (fun _ => by decide), by decide +kernel, Or.inr (Or.inl ⟨rfl, m_at 398 rfl rfl, m_at 399 rfl rfl⟩)⟩
set_option maxRecDepth 20000 in
theorem mk_5_18 : m_callOk RX5 (133, 53, 0, 3, yX5_struck) := ⟨rfl, (fun _ => by decide), by decide +kernel, Or.inl ⟨rfl, m_at 401 rfl rfl, m_at 403 rfl rfl, m_at 2 rfl rfl⟩⟩
set_option maxRecDepth 20000 in
theorem mk_5_19 : m_callOk RX5 (158, 27, 0, 6, yX3_strike) := ⟨rfl, (fun _ => by decide), by decide +kernel, Or.inl ⟨rfl, m_at 405 rfl rfl, m_at 406 rfl rfl, m_at 407 rfl rfl⟩⟩
set_option maxRecDepth 20000 in
theorem mk_5_20 : m_callOk RX5 (139, 54, 0, 0, yX5_remember) := ⟨rfl, (fun _ => by decide), by decide +kernel, Or.inl ⟨rfl, m_at 425 rfl rfl, m_at 427 rfl rfl, m_at 3 rfl rfl⟩⟩
set_option maxRecDepth 20000 in
theorem mk_5_21 : m_callOk RX5 (165, 12, 0, 1, yX1_copyFrom) := ⟨rfl, (fun _ => by decide), by decide +kernel, Or.inl ⟨rfl, m_at 429 rfl rfl, m_at 430 rfl rfl, m_at 431 rfl rfl⟩⟩
set_option maxRecDepth 20000 in
theorem mk_5_22 : m_callOk RX5 (145, 145, 6, 2, yJ9_min_7cf53) := ⟨rfl, (fun h => absurd h (by decide)), by decide +kernel, Or.inr (Or.inr (Or.inr (Or.inr (Or.inr (Or.inr ⟨rfl, m_at 433 rfl rfl⟩)))))⟩
set_option maxRecDepth 20000 in
theorem mk_5_23 : m_callOk RX5 (150, 16, 0, 2, yX1_finish) := ⟨rfl, (fun _ => by decide), by decide +kernel, Or.inl ⟨rfl, m_at 434 rfl rfl, m_at 435 rfl rfl, m_at 436 rfl rfl⟩⟩
set_option maxRecDepth 20000 in
theorem mk_5_24 : m_callOk RX5 (169, 57, 0, 2, yX5_mayChange) := ⟨rfl, (fun _ => by decide), by decide +kernel, Or.inl ⟨rfl, m_at 446 rfl rfl, m_at 448 rfl rfl, m_at 4 rfl rfl⟩⟩
set_option maxRecDepth 20000 in
theorem mk_5_25 : m_callOk RX5 (178, 3, 0, 1, yX0_isOn) := ⟨rfl, (fun _ => by decide), by decide +kernel, Or.inl ⟨rfl, m_at 450 rfl rfl, m_at 451 rfl rfl, m_at 452 rfl rfl⟩⟩
set_option maxRecDepth 20000 in
theorem mk_5_26 : m_callOk RX5 (172, 143, 1, 1, yJ13_bitCount_95d88) := ⟨rfl, (fun _ => by decide), by decide +kernel, Or.inr (Or.inl ⟨rfl, m_at 455 rfl rfl, m_at 456 rfl rfl⟩)⟩
set_option maxRecDepth 20000 in
theorem mk_5_27 : m_callOk RX5 (187, 18, 0, 2, yX2_survey) := ⟨rfl, (fun _ => by decide), by decide +kernel, Or.inl ⟨rfl, m_at 477 rfl rfl, m_at 478 rfl rfl, m_at 479 rfl rfl⟩⟩
set_option maxRecDepth 20000 in
theorem mk_5_28 : m_callOk RX5 (191, 23, 0, 1, yX2_fewest) := ⟨rfl, (fun _ => by decide), by decide +kernel, Or.inl ⟨rfl, m_at 498 rfl rfl, m_at 499 rfl rfl, m_at 500 rfl rfl⟩⟩
set_option maxRecDepth 20000 in
theorem mk_5_29 : m_callOk RX5 (194, 62, 0, 2, yX5_strokeHome) := ⟨rfl, (fun _ => by decide), by decide +kernel, Or.inl ⟨rfl, m_at 502 rfl rfl, m_at 504 rfl rfl, m_at 5 rfl rfl⟩⟩
set_option maxRecDepth 20000 in
theorem mk_5_30 : m_callOk RX5 (197, 63, 0, 3, yX5_firstNearer) := ⟨rfl, (fun _ => by decide), by decide +kernel, Or.inl ⟨rfl, m_at 506 rfl rfl, m_at 508 rfl rfl, m_at 6 rfl rfl⟩⟩
set_option maxRecDepth 20000 in
theorem mk_5_31 : m_callOk RX5 (200, 66, 0, 2, yX5_inOne) := ⟨rfl, (fun _ => by decide), by decide +kernel, Or.inl ⟨rfl, m_at 518 rfl rfl, m_at 520 rfl rfl, m_at 7 rfl rfl⟩⟩
set_option maxRecDepth 20000 in
theorem mk_5_32 : m_callOk RX5 (203, 144, 5, 2, yJ9_max_7cf53) := ⟨rfl, (fun h => absurd h (by decide)), by decide +kernel, Or.inr (Or.inr (Or.inr (Or.inr (Or.inr (Or.inl ⟨rfl, m_at 522 rfl rfl⟩)))))⟩
set_option maxRecDepth 20000 in
theorem mk_5_33 : m_callOk RX5 (206, 67, 1, 1, yX5_commonDivisor) := ⟨rfl, (fun _ => by decide), by decide +kernel, Or.inr (Or.inl ⟨rfl, m_at 525 rfl rfl, m_at 526 rfl rfl⟩)⟩
set_option maxRecDepth 20000 in
theorem mk_5_34 : m_callOk RX5 (209, 71, 0, 2, yX5_allLay) := ⟨rfl, (fun _ => by decide), by decide +kernel, Or.inl ⟨rfl, m_at 540 rfl rfl, m_at 542 rfl rfl, m_at 8 rfl rfl⟩⟩
set_option maxRecDepth 20000 in
theorem mk_5_35 : m_callOk RX5 (212, 73, 0, 1, yX5_leastStrokes) := ⟨rfl, (fun _ => by decide), by decide +kernel, Or.inl ⟨rfl, m_at 548 rfl rfl, m_at 550 rfl rfl, m_at 9 rfl rfl⟩⟩
set_option maxRecDepth 20000 in
theorem mk_5_36 : m_callOk RX5 (215, 75, 0, 1, yX5_homeIfChanged) := ⟨rfl, (fun _ => by decide), by decide +kernel, Or.inl ⟨rfl, m_at 556 rfl rfl, m_at 558 rfl rfl, m_at 10 rfl rfl⟩⟩
set_option maxRecDepth 20000 in
theorem mk_5_37 : m_callOk RX5 (218, 19, 0, 3, yX2_surveyBeside) := ⟨rfl, (fun _ => by decide), by decide +kernel, Or.inl ⟨rfl, m_at 560 rfl rfl, m_at 561 rfl rfl, m_at 562 rfl rfl⟩⟩
set_option maxRecDepth 20000 in
theorem mk_5_38 : m_callOk RX5 (222, 22, 0, 0, yX2_measure) := ⟨rfl, (fun _ => by decide), by decide +kernel, Or.inl ⟨rfl, m_at 564 rfl rfl, m_at 495 rfl rfl, m_at 496 rfl rfl⟩⟩
set_option maxRecDepth 20000 in
theorem mk_5_39 : m_callOk RX5 (226, 78, 0, 2, yX5_asBoard) := ⟨rfl, (fun _ => by decide), by decide +kernel, Or.inl ⟨rfl, m_at 570 rfl rfl, m_at 572 rfl rfl, m_at 11 rfl rfl⟩⟩
set_option maxRecDepth 20000 in
theorem mk_5_40 : m_callOk RX5 (241, 77, 0, 1, yX5_asCell) := ⟨rfl, (fun _ => by decide), by decide +kernel, Or.inl ⟨rfl, m_at 575 rfl rfl, m_at 577 rfl rfl, m_at 12 rfl rfl⟩⟩
set_option maxRecDepth 20000 in
theorem mk_5_41 : m_callOk RX5 (229, 79, 0, 1, yX5_asPond) := ⟨rfl, (fun _ => by decide), by decide +kernel, Or.inl ⟨rfl, m_at 579 rfl rfl, m_at 581 rfl rfl, m_at 13 rfl rfl⟩⟩
set_option maxRecDepth 20000 in
theorem mk_5_42 : m_callOk RX5 (232, 80, 0, 2, yX5_asMill) := ⟨rfl, (fun _ => by decide), by decide +kernel, Or.inl ⟨rfl, m_at 584 rfl rfl, m_at 586 rfl rfl, m_at 14 rfl rfl⟩⟩
set_option maxRecDepth 20000 in
theorem mk_5_43 : m_callOk RX5 (235, 81, 0, 1, yX5_asLeaf) := ⟨rfl, (fun _ => by decide), by decide +kernel, Or.inl ⟨rfl, m_at 589 rfl rfl, m_at 591 rfl rfl, m_at 15 rfl rfl⟩⟩
set_option maxRecDepth 20000 in
theorem mk_5_44 : m_callOk RX5 (238, 82, 0, 1, yX5_asPipe) := ⟨rfl, (fun _ => by decide), by decide +kernel, Or.inl ⟨rfl, m_at 594 rfl rfl, m_at 596 rfl rfl, m_at 16 rfl rfl⟩⟩
set_option maxRecDepth 20000 in
theorem mk_5_45 : m_callOk RX5 (257, 6, 0, 1, yX0_leftOver) := ⟨rfl, (fun _ => by decide), by decide +kernel, Or.inl ⟨rfl, m_at 599 rfl rfl, m_at 600 rfl rfl, m_at 601 rfl rfl⟩⟩
set_option maxRecDepth 20000 in
theorem mK_5 : ∀ q ∈ m_calls_5, m_callOk RX5 q := List.forall_mem_cons.mpr ⟨mk_5_0, List.forall_mem_cons.mpr ⟨mk_5_1, List.forall_mem_cons.mpr ⟨mk_5_2, List.forall_mem_cons.mpr ⟨mk_5_3, List.forall_mem_cons.mpr ⟨mk_5_4, List.forall_mem_cons.mpr ⟨mk_5_5, List.forall_mem_cons.mpr ⟨mk_5_6, List.forall_mem_cons.mpr ⟨mk_5_7, List.forall_mem_cons.mpr ⟨mk_5_8, List.forall_mem_cons.mpr ⟨mk_5_9, List.forall_mem_cons.mpr ⟨mk_5_10, List.forall_mem_cons.mpr ⟨mk_5_11, List.forall_mem_cons.mpr ⟨mk_5_12, List.forall_mem_cons.mpr ⟨mk_5_13, List.forall_mem_cons.mpr ⟨mk_5_14, List.forall_mem_cons.mpr ⟨mk_5_15, List.forall_mem_cons.mpr ⟨mk_5_16, List.forall_mem_cons.mpr ⟨mk_5_17, List.forall_mem_cons.mpr ⟨mk_5_18, List.forall_mem_cons.mpr ⟨mk_5_19, List.forall_mem_cons.mpr ⟨mk_5_20, List.forall_mem_cons.mpr ⟨mk_5_21, List.forall_mem_cons.mpr ⟨mk_5_22, List.forall_mem_cons.mpr ⟨mk_5_23, List.forall_mem_cons.mpr ⟨mk_5_24, List.forall_mem_cons.mpr ⟨mk_5_25, List.forall_mem_cons.mpr ⟨mk_5_26, List.forall_mem_cons.mpr ⟨mk_5_27, List.forall_mem_cons.mpr ⟨mk_5_28, List.forall_mem_cons.mpr ⟨mk_5_29, List.forall_mem_cons.mpr ⟨mk_5_30, List.forall_mem_cons.mpr ⟨mk_5_31, List.forall_mem_cons.mpr ⟨mk_5_32, List.forall_mem_cons.mpr ⟨mk_5_33, List.forall_mem_cons.mpr ⟨mk_5_34, List.forall_mem_cons.mpr ⟨mk_5_35, List.forall_mem_cons.mpr ⟨mk_5_36, List.forall_mem_cons.mpr ⟨mk_5_37, List.forall_mem_cons.mpr ⟨mk_5_38, List.forall_mem_cons.mpr ⟨mk_5_39, List.forall_mem_cons.mpr ⟨mk_5_40, List.forall_mem_cons.mpr ⟨mk_5_41, List.forall_mem_cons.mpr ⟨mk_5_42, List.forall_mem_cons.mpr ⟨mk_5_43, List.forall_mem_cons.mpr ⟨mk_5_44, List.forall_mem_cons.mpr ⟨mk_5_45, fun _ h => absurd h List.not_mem_nil⟩⟩⟩⟩⟩⟩⟩⟩⟩⟩⟩⟩⟩⟩⟩⟩⟩⟩⟩⟩⟩⟩⟩⟩⟩⟩⟩⟩⟩⟩⟩⟩⟩⟩⟩⟩⟩⟩⟩⟩⟩⟩⟩⟩⟩⟩
set_option maxRecDepth 20000 in
theorem mk_6_0 : m_callOk RX6 (51, 88, 1, 3, yX6_in) := ⟨rfl, (fun _ => by decide), by decide +kernel, Or.inr (Or.inl ⟨rfl, m_at 729 rfl rfl, m_at 730 rfl rfl⟩)⟩
set_option maxRecDepth 20000 in
theorem mk_6_1 : m_callOk RX6 (85, 96, 0, 0, yX6_next) := ⟨rfl, (fun _ => by decide), by decide +kernel, Or.inl ⟨rfl, m_at 740 rfl rfl, m_at 742 rfl rfl, m_at 17 rfl rfl⟩⟩
set_option maxRecDepth 20000 in
theorem mk_6_2 : m_callOk RX6 (64, 94, 0, 1, yX6_letterAt) := ⟨rfl, (fun _ => by decide), by decide +kernel, Or.inl ⟨rfl, m_at 744 rfl rfl, m_at 746 rfl rfl, m_at 18 rfl rfl⟩⟩
set_option maxRecDepth 20000 in
theorem mk_6_3 : m_callOk RX6 (77, 95, 1, 1, yX6_isFigure) := ⟨rfl, (fun _ => by decide), by decide +kernel, Or.inr (Or.inl ⟨rfl, m_at 748 rfl rfl, m_at 749 rfl rfl⟩)⟩
set_option maxRecDepth 20000 in
theorem mk_6_4 : m_callOk RX6 (128, 102, 0, 0, yX6_readItem) := ⟨rfl, (fun _ => by decide), by decide +kernel, Or.inl ⟨rfl, m_at 751 rfl rfl, m_at 753 rfl rfl, m_at 19 rfl rfl⟩⟩
set_option maxRecDepth 20000 in
theorem mk_6_5 : m_callOk RX6 (116, 101, 0, 1, yX6_mayBegin) := ⟨rfl, (fun _ => by decide), by decide +kernel, Or.inl ⟨rfl, m_at 755 rfl rfl, m_at 757 rfl rfl, m_at 20 rfl rfl⟩⟩
set_option maxRecDepth 20000 in
theorem mk_6_6 : m_callOk RX6 (100, 97, 0, 2, yX6_takes) := ⟨rfl, (fun _ => by decide), by decide +kernel, Or.inl ⟨rfl, m_at 759 rfl rfl, m_at 761 rfl rfl, m_at 21 rfl rfl⟩⟩
set_option maxRecDepth 20000 in
theorem mk_6_7 : m_callOk RX6 (119, 99, 0, 0, yX6_readRow) := ⟨rfl, (fun _ => by decide), by decide +kernel, Or.inl ⟨rfl, m_at 763 rfl rfl, m_at 765 rfl rfl, m_at 22 rfl rfl⟩⟩
set_option maxRecDepth 20000 in
theorem mk_6_8 : m_callOk RX6 (91, 98, 1, 1, yX6_kindOf) := ⟨rfl, (fun _ => by decide), by decide +kernel, Or.inr (Or.inl ⟨rfl, m_at 767 rfl rfl, m_at 768 rfl rfl⟩)⟩
set_option maxRecDepth 20000 in
theorem mk_6_9 : m_callOk RX6 (122, 100, 0, 0, yX6_readTee) := ⟨rfl, (fun _ => by decide), by decide +kernel, Or.inl ⟨rfl, m_at 770 rfl rfl, m_at 772 rfl rfl, m_at 23 rfl rfl⟩⟩
set_option maxRecDepth 20000 in
theorem mk_6_10 : m_callOk RX6 (131, 104, 0, 0, yX6_settles) := ⟨rfl, (fun _ => by decide), by decide +kernel, Or.inl ⟨rfl, m_at 774 rfl rfl, m_at 776 rfl rfl, m_at 24 rfl rfl⟩⟩
set_option maxRecDepth 20000 in
theorem mk_6_11 : m_callOk RX6 (146, 89, 0, 2, yX6_isCell) := ⟨rfl, (fun _ => by decide), by decide +kernel, Or.inl ⟨rfl, m_at 782 rfl rfl, m_at 784 rfl rfl, m_at 25 rfl rfl⟩⟩
set_option maxRecDepth 20000 in
theorem mk_6_12 : m_callOk RX6 (150, 91, 1, 1, yX6_placed) := ⟨rfl, (fun _ => by decide), by decide +kernel, Or.inr (Or.inl ⟨rfl, m_at 794 rfl rfl, m_at 795 rfl rfl⟩)⟩
set_option maxRecDepth 20000 in
theorem mk_6_13 : m_callOk RX6 (153, 110, 0, 0, yX6_leader) := ⟨rfl, (fun _ => by decide), by decide +kernel, Or.inl ⟨rfl, m_at 797 rfl rfl, m_at 799 rfl rfl, m_at 26 rfl rfl⟩⟩
set_option maxRecDepth 20000 in
theorem mk_6_14 : m_callOk RX6 (161, 106, 1, 2, yX6_isStroke) := ⟨rfl, (fun _ => by decide), by decide +kernel, Or.inr (Or.inl ⟨rfl, m_at 805 rfl rfl, m_at 806 rfl rfl⟩)⟩
set_option maxRecDepth 20000 in
theorem mk_6_15 : m_callOk RX6 (164, 107, 0, 0, yX6_isOver) := ⟨rfl, (fun _ => by decide), by decide +kernel, Or.inl ⟨rfl, m_at 808 rfl rfl, m_at 810 rfl rfl, m_at 27 rfl rfl⟩⟩
set_option maxRecDepth 20000 in
theorem mk_6_16 : m_callOk RX6 (168, 105, 0, 4, yX6_rolls) := ⟨rfl, (fun _ => by decide), by decide +kernel, Or.inl ⟨rfl, m_at 812 rfl rfl, m_at 814 rfl rfl, m_at 28 rfl rfl⟩⟩
set_option maxRecDepth 20000 in
theorem mk_6_17 : m_callOk RX6 (173, 112, 0, 0, yX6_remembers) := ⟨rfl, (fun _ => by decide), by decide +kernel, Or.inl ⟨rfl, m_at 817 rfl rfl, m_at 819 rfl rfl, m_at 29 rfl rfl⟩⟩
set_option maxRecDepth 20000 in
theorem mk_6_18 : m_callOk RX6 (157, 90, 1, 4, yX6_copy) := ⟨rfl, (fun _ => by decide), by decide +kernel, Or.inr (Or.inl ⟨rfl, m_at 821 rfl rfl, m_at 822 rfl rfl⟩)⟩
set_option maxRecDepth 20000 in
theorem mk_6_19 : m_callOk RX6 (176, 113, 0, 1, yX6_ends) := ⟨rfl, (fun _ => by decide), by decide +kernel, Or.inl ⟨rfl, m_at 824 rfl rfl, m_at 826 rfl rfl, m_at 30 rfl rfl⟩⟩
set_option maxRecDepth 20000 in
theorem mk_6_20 : m_callOk RX6 (180, 116, 0, 1, yX6_mayBoard) := ⟨rfl, (fun _ => by decide), by decide +kernel, Or.inl ⟨rfl, m_at 836 rfl rfl, m_at 838 rfl rfl, m_at 31 rfl rfl⟩⟩
set_option maxRecDepth 20000 in
theorem mk_6_21 : m_callOk RX6 (189, 124, 0, 0, yX6_findHome) := ⟨rfl, (fun _ => by decide), by decide +kernel, Or.inl ⟨rfl, m_at 856 rfl rfl, m_at 858 rfl rfl, m_at 32 rfl rfl⟩⟩
set_option maxRecDepth 20000 in
theorem mk_6_22 : m_callOk RX6 (183, 121, 0, 1, yX6_mayLie) := ⟨rfl, (fun _ => by decide), by decide +kernel, Or.inl ⟨rfl, m_at 860 rfl rfl, m_at 862 rfl rfl, m_at 33 rfl rfl⟩⟩
set_option maxRecDepth 20000 in
theorem mk_6_23 : m_callOk RX6 (186, 123, 0, 2, yX6_isNearer) := ⟨rfl, (fun _ => by decide), by decide +kernel, Or.inl ⟨rfl, m_at 864 rfl rfl, m_at 866 rfl rfl, m_at 34 rfl rfl⟩⟩
set_option maxRecDepth 20000 in
theorem mk_6_24 : m_callOk RX6 (192, 125, 0, 1, yX6_homeFrom) := ⟨rfl, (fun _ => by decide), by decide +kernel, Or.inl ⟨rfl, m_at 868 rfl rfl, m_at 870 rfl rfl, m_at 35 rfl rfl⟩⟩
set_option maxRecDepth 20000 in
theorem mk_6_25 : m_callOk RX6 (195, 127, 0, 2, yX6_firstHome) := ⟨rfl, (fun _ => by decide), by decide +kernel, Or.inl ⟨rfl, m_at 872 rfl rfl, m_at 874 rfl rfl, m_at 36 rfl rfl⟩⟩
set_option maxRecDepth 20000 in
theorem mk_6_26 : m_callOk RX6 (198, 122, 1, 4, yX6_strokeAt) := ⟨rfl, (fun _ => by decide), by decide +kernel, Or.inr (Or.inl ⟨rfl, m_at 876 rfl rfl, m_at 877 rfl rfl⟩)⟩
set_option maxRecDepth 20000 in
theorem mk_6_27 : m_callOk RX6 (201, 129, 0, 2, yX6_isInBy) := ⟨rfl, (fun _ => by decide), by decide +kernel, Or.inl ⟨rfl, m_at 887 rfl rfl, m_at 889 rfl rfl, m_at 37 rfl rfl⟩⟩
set_option maxRecDepth 20000 in
theorem mk_6_28 : m_callOk RX6 (204, 135, 0, 2, yX6_homeWith) := ⟨rfl, (fun _ => by decide), by decide +kernel, Or.inl ⟨rfl, m_at 911 rfl rfl, m_at 913 rfl rfl, m_at 38 rfl rfl⟩⟩
set_option maxRecDepth 20000 in
theorem mk_6_29 : m_callOk RX6 (221, 137, 0, 3, yX6_rateOf) := ⟨rfl, (fun _ => by decide), by decide +kernel, Or.inl ⟨rfl, m_at 919 rfl rfl, m_at 921 rfl rfl, m_at 39 rfl rfl⟩⟩
set_option maxRecDepth 20000 in
theorem mK_6 : ∀ q ∈ m_calls_6, m_callOk RX6 q := List.forall_mem_cons.mpr ⟨mk_6_0, List.forall_mem_cons.mpr ⟨mk_6_1, List.forall_mem_cons.mpr ⟨mk_6_2, List.forall_mem_cons.mpr ⟨mk_6_3, List.forall_mem_cons.mpr ⟨mk_6_4, List.forall_mem_cons.mpr ⟨mk_6_5, List.forall_mem_cons.mpr ⟨mk_6_6, List.forall_mem_cons.mpr ⟨mk_6_7, List.forall_mem_cons.mpr ⟨mk_6_8, List.forall_mem_cons.mpr ⟨mk_6_9, List.forall_mem_cons.mpr ⟨mk_6_10, List.forall_mem_cons.mpr ⟨mk_6_11, List.forall_mem_cons.mpr ⟨mk_6_12, List.forall_mem_cons.mpr ⟨mk_6_13, List.forall_mem_cons.mpr ⟨mk_6_14, List.forall_mem_cons.mpr ⟨mk_6_15, List.forall_mem_cons.mpr ⟨mk_6_16, List.forall_mem_cons.mpr ⟨mk_6_17, List.forall_mem_cons.mpr ⟨mk_6_18, List.forall_mem_cons.mpr ⟨mk_6_19, List.forall_mem_cons.mpr ⟨mk_6_20, List.forall_mem_cons.mpr ⟨mk_6_21, List.forall_mem_cons.mpr ⟨mk_6_22, List.forall_mem_cons.mpr ⟨mk_6_23, List.forall_mem_cons.mpr ⟨mk_6_24, List.forall_mem_cons.mpr ⟨mk_6_25, List.forall_mem_cons.mpr ⟨mk_6_26, List.forall_mem_cons.mpr ⟨mk_6_27, List.forall_mem_cons.mpr ⟨mk_6_28, List.forall_mem_cons.mpr ⟨mk_6_29, fun _ h => absurd h List.not_mem_nil⟩⟩⟩⟩⟩⟩⟩⟩⟩⟩⟩⟩⟩⟩⟩⟩⟩⟩⟩⟩⟩⟩⟩⟩⟩⟩⟩⟩⟩⟩
set_option maxRecDepth 20000 in
theorem mk_7_0 : m_callOk RL (9, 41, 2, 0, yX5_init) := ⟨rfl, (fun _ => by decide), by decide +kernel, Or.inr (Or.inr (Or.inl ⟨rfl, m_at 52 rfl rfl, rfl, m_at 53 rfl rfl, rfl⟩))⟩
set_option maxRecDepth 20000 in
theorem mk_7_1 : m_callOk RL (13, 42, 0, 1, yX5_type) := ⟨rfl, (fun _ => by decide), by decide +kernel, Or.inl ⟨rfl, m_at 273 rfl rfl, m_at 274 rfl rfl, m_at 275 rfl rfl⟩⟩
set_option maxRecDepth 20000 in
theorem mk_7_2 : m_callOk RL (18, 43, 0, 0, yX5_clear) := ⟨rfl, (fun _ => by decide), by decide +kernel, Or.inl ⟨rfl, m_at 281 rfl rfl, m_at 282 rfl rfl, m_at 283 rfl rfl⟩⟩
set_option maxRecDepth 20000 in
theorem mk_7_3 : m_callOk RL (23, 44, 0, 0, yX5_lawn) := ⟨rfl, (fun _ => by decide), by decide +kernel, Or.inl ⟨rfl, m_at 285 rfl rfl, m_at 286 rfl rfl, m_at 287 rfl rfl⟩⟩
set_option maxRecDepth 20000 in
theorem mk_7_4 : m_callOk RL (27, 46, 0, 2, yX5_cell) := ⟨rfl, (fun _ => by decide), by decide +kernel, Or.inl ⟨rfl, m_at 356 rfl rfl, m_at 357 rfl rfl, m_at 358 rfl rfl⟩⟩
set_option maxRecDepth 20000 in
theorem mk_7_5 : m_callOk RL (32, 48, 0, 1, yX5_score) := ⟨rfl, (fun _ => by decide), by decide +kernel, Or.inl ⟨rfl, m_at 370 rfl rfl, m_at 371 rfl rfl, m_at 372 rfl rfl⟩⟩
set_option maxRecDepth 20000 in
theorem mk_7_6 : m_callOk RL (36, 49, 0, 1, yX5_now) := ⟨rfl, (fun _ => by decide), by decide +kernel, Or.inl ⟨rfl, m_at 378 rfl rfl, m_at 379 rfl rfl, m_at 380 rfl rfl⟩⟩
set_option maxRecDepth 20000 in
theorem mk_7_7 : m_callOk RL (40, 51, 0, 2, yX5_strikes) := ⟨rfl, (fun _ => by decide), by decide +kernel, Or.inl ⟨rfl, m_at 394 rfl rfl, m_at 395 rfl rfl, m_at 396 rfl rfl⟩⟩
set_option maxRecDepth 20000 in
theorem mk_7_8 : m_callOk RL (44, 55, 0, 1, yX5_waits) := ⟨rfl, (fun _ => by decide), by decide +kernel, Or.inl ⟨rfl, m_at 438 rfl rfl, m_at 439 rfl rfl, m_at 440 rfl rfl⟩⟩
set_option maxRecDepth 20000 in
theorem mk_7_9 : m_callOk RL (48, 56, 0, 3, yX5_boards) := ⟨rfl, (fun _ => by decide), by decide +kernel, Or.inl ⟨rfl, m_at 442 rfl rfl, m_at 443 rfl rfl, m_at 444 rfl rfl⟩⟩
set_option maxRecDepth 20000 in
theorem mk_7_10 : m_callOk RL (53, 58, 0, 0, yX5_undo) := ⟨rfl, (fun _ => by decide), by decide +kernel, Or.inl ⟨rfl, m_at 461 rfl rfl, m_at 462 rfl rfl, m_at 463 rfl rfl⟩⟩
set_option maxRecDepth 20000 in
theorem mk_7_11 : m_callOk RL (57, 59, 0, 2, yX5_would) := ⟨rfl, (fun _ => by decide), by decide +kernel, Or.inl ⟨rfl, m_at 465 rfl rfl, m_at 466 rfl rfl, m_at 467 rfl rfl⟩⟩
set_option maxRecDepth 20000 in
theorem mk_7_12 : m_callOk RL (61, 60, 0, 2, yX5_when) := ⟨rfl, (fun _ => by decide), by decide +kernel, Or.inl ⟨rfl, m_at 469 rfl rfl, m_at 470 rfl rfl, m_at 471 rfl rfl⟩⟩
set_option maxRecDepth 20000 in
theorem mk_7_13 : m_callOk RL (65, 61, 0, 1, yX5_home) := ⟨rfl, (fun _ => by decide), by decide +kernel, Or.inl ⟨rfl, m_at 473 rfl rfl, m_at 474 rfl rfl, m_at 475 rfl rfl⟩⟩
set_option maxRecDepth 20000 in
theorem mk_7_14 : m_callOk RL (69, 64, 0, 0, yX5_ones) := ⟨rfl, (fun _ => by decide), by decide +kernel, Or.inl ⟨rfl, m_at 510 rfl rfl, m_at 511 rfl rfl, m_at 512 rfl rfl⟩⟩
set_option maxRecDepth 20000 in
theorem mk_7_15 : m_callOk RL (73, 65, 0, 4, yX5_odds) := ⟨rfl, (fun _ => by decide), by decide +kernel, Or.inl ⟨rfl, m_at 514 rfl rfl, m_at 515 rfl rfl, m_at 516 rfl rfl⟩⟩
set_option maxRecDepth 20000 in
theorem mk_7_16 : m_callOk RL (78, 68, 0, 2, yX5_lay) := ⟨rfl, (fun _ => by decide), by decide +kernel, Or.inl ⟨rfl, m_at 528 rfl rfl, m_at 529 rfl rfl, m_at 530 rfl rfl⟩⟩
set_option maxRecDepth 20000 in
theorem mk_7_17 : m_callOk RL (82, 69, 0, 0, yX5_forget) := ⟨rfl, (fun _ => by decide), by decide +kernel, Or.inl ⟨rfl, m_at 532 rfl rfl, m_at 533 rfl rfl, m_at 534 rfl rfl⟩⟩
set_option maxRecDepth 20000 in
theorem mk_7_18 : m_callOk RL (86, 70, 0, 1, yX5_which) := ⟨rfl, (fun _ => by decide), by decide +kernel, Or.inl ⟨rfl, m_at 536 rfl rfl, m_at 537 rfl rfl, m_at 538 rfl rfl⟩⟩
set_option maxRecDepth 20000 in
theorem mk_7_19 : m_callOk RL (90, 72, 0, 0, yX5_best) := ⟨rfl, (fun _ => by decide), by decide +kernel, Or.inl ⟨rfl, m_at 544 rfl rfl, m_at 545 rfl rfl, m_at 546 rfl rfl⟩⟩
set_option maxRecDepth 20000 in
theorem mk_7_20 : m_callOk RL (94, 74, 0, 1, yX5_board) := ⟨rfl, (fun _ => by decide), by decide +kernel, Or.inl ⟨rfl, m_at 552 rfl rfl, m_at 553 rfl rfl, m_at 554 rfl rfl⟩⟩
set_option maxRecDepth 20000 in
theorem mk_7_21 : m_callOk RL (98, 76, 0, 3, yX5_rate) := ⟨rfl, (fun _ => by decide), by decide +kernel, Or.inl ⟨rfl, m_at 565 rfl rfl, m_at 566 rfl rfl, m_at 567 rfl rfl⟩⟩
set_option maxRecDepth 20000 in
theorem mk_7_22 : m_callOk RL (102, 83, 0, 1, yX5_keep) := ⟨rfl, (fun _ => by decide), by decide +kernel, Or.inl ⟨rfl, m_at 603 rfl rfl, m_at 604 rfl rfl, m_at 605 rfl rfl⟩⟩
set_option maxRecDepth 20000 in
theorem mk_7_23 : m_callOk RL (106, 84, 0, 1, yX5_back) := ⟨rfl, (fun _ => by decide), by decide +kernel, Or.inl ⟨rfl, m_at 607 rfl rfl, m_at 608 rfl rfl, m_at 609 rfl rfl⟩⟩
set_option maxRecDepth 20000 in
theorem mk_7_24 : m_callOk RL (110, 85, 0, 1, yX5_count) := ⟨rfl, (fun _ => by decide), by decide +kernel, Or.inl ⟨rfl, m_at 611 rfl rfl, m_at 612 rfl rfl, m_at 613 rfl rfl⟩⟩
set_option maxRecDepth 20000 in
theorem mk_7_25 : m_callOk RL (114, 86, 0, 0, yX5_trace) := ⟨rfl, (fun _ => by decide), by decide +kernel, Or.inl ⟨rfl, m_at 615 rfl rfl, m_at 616 rfl rfl, m_at 617 rfl rfl⟩⟩
set_option maxRecDepth 20000 in
theorem mk_7_26 : m_callOk RL (12, 87, 2, 0, yX6_init) := ⟨rfl, (fun _ => by decide), by decide +kernel, Or.inr (Or.inr (Or.inl ⟨rfl, m_at 621 rfl rfl, rfl, m_at 622 rfl rfl, rfl⟩))⟩
set_option maxRecDepth 20000 in
theorem mk_7_27 : m_callOk RL (17, 92, 0, 1, yX6_type) := ⟨rfl, (fun _ => by decide), by decide +kernel, Or.inl ⟨rfl, m_at 725 rfl rfl, m_at 726 rfl rfl, m_at 727 rfl rfl⟩⟩
set_option maxRecDepth 20000 in
theorem mk_7_28 : m_callOk RL (22, 93, 0, 0, yX6_clear) := ⟨rfl, (fun _ => by decide), by decide +kernel, Or.inl ⟨rfl, m_at 732 rfl rfl, m_at 733 rfl rfl, m_at 734 rfl rfl⟩⟩
set_option maxRecDepth 20000 in
theorem mk_7_29 : m_callOk RL (26, 103, 0, 0, yX6_lawn) := ⟨rfl, (fun _ => by decide), by decide +kernel, Or.inl ⟨rfl, m_at 736 rfl rfl, m_at 737 rfl rfl, m_at 738 rfl rfl⟩⟩
set_option maxRecDepth 20000 in
theorem mk_7_30 : m_callOk RL (31, 108, 0, 2, yX6_cell) := ⟨rfl, (fun _ => by decide), by decide +kernel, Or.inl ⟨rfl, m_at 778 rfl rfl, m_at 779 rfl rfl, m_at 780 rfl rfl⟩⟩
set_option maxRecDepth 20000 in
theorem mk_7_31 : m_callOk RL (35, 109, 0, 1, yX6_score) := ⟨rfl, (fun _ => by decide), by decide +kernel, Or.inl ⟨rfl, m_at 786 rfl rfl, m_at 787 rfl rfl, m_at 788 rfl rfl⟩⟩
set_option maxRecDepth 20000 in
theorem mk_7_32 : m_callOk RL (39, 111, 0, 1, yX6_now) := ⟨rfl, (fun _ => by decide), by decide +kernel, Or.inl ⟨rfl, m_at 790 rfl rfl, m_at 791 rfl rfl, m_at 792 rfl rfl⟩⟩
set_option maxRecDepth 20000 in
theorem mk_7_33 : m_callOk RL (43, 114, 0, 2, yX6_strikes) := ⟨rfl, (fun _ => by decide), by decide +kernel, Or.inl ⟨rfl, m_at 801 rfl rfl, m_at 802 rfl rfl, m_at 803 rfl rfl⟩⟩
set_option maxRecDepth 20000 in
theorem mk_7_34 : m_callOk RL (47, 115, 0, 1, yX6_waits) := ⟨rfl, (fun _ => by decide), by decide +kernel, Or.inl ⟨rfl, m_at 828 rfl rfl, m_at 829 rfl rfl, m_at 830 rfl rfl⟩⟩
set_option maxRecDepth 20000 in
theorem mk_7_35 : m_callOk RL (52, 117, 0, 3, yX6_boards) := ⟨rfl, (fun _ => by decide), by decide +kernel, Or.inl ⟨rfl, m_at 832 rfl rfl, m_at 833 rfl rfl, m_at 834 rfl rfl⟩⟩
set_option maxRecDepth 20000 in
theorem mk_7_36 : m_callOk RL (56, 118, 0, 0, yX6_undo) := ⟨rfl, (fun _ => by decide), by decide +kernel, Or.inl ⟨rfl, m_at 840 rfl rfl, m_at 841 rfl rfl, m_at 842 rfl rfl⟩⟩
set_option maxRecDepth 20000 in
theorem mk_7_37 : m_callOk RL (60, 119, 0, 2, yX6_would) := ⟨rfl, (fun _ => by decide), by decide +kernel, Or.inl ⟨rfl, m_at 844 rfl rfl, m_at 845 rfl rfl, m_at 846 rfl rfl⟩⟩
set_option maxRecDepth 20000 in
theorem mk_7_38 : m_callOk RL (64, 120, 0, 2, yX6_when) := ⟨rfl, (fun _ => by decide), by decide +kernel, Or.inl ⟨rfl, m_at 848 rfl rfl, m_at 849 rfl rfl, m_at 850 rfl rfl⟩⟩
set_option maxRecDepth 20000 in
theorem mk_7_39 : m_callOk RL (68, 126, 0, 1, yX6_home) := ⟨rfl, (fun _ => by decide), by decide +kernel, Or.inl ⟨rfl, m_at 852 rfl rfl, m_at 853 rfl rfl, m_at 854 rfl rfl⟩⟩
set_option maxRecDepth 20000 in
theorem mk_7_40 : m_callOk RL (72, 128, 0, 0, yX6_ones) := ⟨rfl, (fun _ => by decide), by decide +kernel, Or.inl ⟨rfl, m_at 879 rfl rfl, m_at 880 rfl rfl, m_at 881 rfl rfl⟩⟩
set_option maxRecDepth 20000 in
theorem mk_7_41 : m_callOk RL (77, 130, 0, 4, yX6_odds) := ⟨rfl, (fun _ => by decide), by decide +kernel, Or.inl ⟨rfl, m_at 883 rfl rfl, m_at 884 rfl rfl, m_at 885 rfl rfl⟩⟩
set_option maxRecDepth 20000 in
theorem mk_7_42 : m_callOk RL (81, 131, 0, 2, yX6_lay) := ⟨rfl, (fun _ => by decide), by decide +kernel, Or.inl ⟨rfl, m_at 891 rfl rfl, m_at 892 rfl rfl, m_at 893 rfl rfl⟩⟩
set_option maxRecDepth 20000 in
theorem mk_7_43 : m_callOk RL (85, 132, 0, 0, yX6_forget) := ⟨rfl, (fun _ => by decide), by decide +kernel, Or.inl ⟨rfl, m_at 895 rfl rfl, m_at 896 rfl rfl, m_at 897 rfl rfl⟩⟩
set_option maxRecDepth 20000 in
theorem mk_7_44 : m_callOk RL (89, 133, 0, 1, yX6_which) := ⟨rfl, (fun _ => by decide), by decide +kernel, Or.inl ⟨rfl, m_at 899 rfl rfl, m_at 900 rfl rfl, m_at 901 rfl rfl⟩⟩
set_option maxRecDepth 20000 in
theorem mk_7_45 : m_callOk RL (93, 134, 0, 0, yX6_best) := ⟨rfl, (fun _ => by decide), by decide +kernel, Or.inl ⟨rfl, m_at 903 rfl rfl, m_at 904 rfl rfl, m_at 905 rfl rfl⟩⟩
set_option maxRecDepth 20000 in
theorem mk_7_46 : m_callOk RL (97, 136, 0, 1, yX6_board) := ⟨rfl, (fun _ => by decide), by decide +kernel, Or.inl ⟨rfl, m_at 907 rfl rfl, m_at 908 rfl rfl, m_at 909 rfl rfl⟩⟩
set_option maxRecDepth 20000 in
theorem mk_7_47 : m_callOk RL (101, 138, 0, 3, yX6_rate) := ⟨rfl, (fun _ => by decide), by decide +kernel, Or.inl ⟨rfl, m_at 915 rfl rfl, m_at 916 rfl rfl, m_at 917 rfl rfl⟩⟩
set_option maxRecDepth 20000 in
theorem mk_7_48 : m_callOk RL (105, 139, 0, 1, yX6_keep) := ⟨rfl, (fun _ => by decide), by decide +kernel, Or.inl ⟨rfl, m_at 929 rfl rfl, m_at 930 rfl rfl, m_at 931 rfl rfl⟩⟩
set_option maxRecDepth 20000 in
theorem mk_7_49 : m_callOk RL (109, 140, 0, 1, yX6_back) := ⟨rfl, (fun _ => by decide), by decide +kernel, Or.inl ⟨rfl, m_at 933 rfl rfl, m_at 934 rfl rfl, m_at 935 rfl rfl⟩⟩
set_option maxRecDepth 20000 in
theorem mk_7_50 : m_callOk RL (113, 141, 0, 1, yX6_count) := ⟨rfl, (fun _ => by decide), by decide +kernel, Or.inl ⟨rfl, m_at 937 rfl rfl, m_at 938 rfl rfl, m_at 939 rfl rfl⟩⟩
set_option maxRecDepth 20000 in
theorem mk_7_51 : m_callOk RL (118, 142, 0, 0, yX6_trace) := ⟨rfl, (fun _ => by decide), by decide +kernel, Or.inl ⟨rfl, m_at 941 rfl rfl, m_at 942 rfl rfl, m_at 943 rfl rfl⟩⟩
set_option maxRecDepth 20000 in
theorem mK_7 : ∀ q ∈ m_calls_7, m_callOk RL q := List.forall_mem_cons.mpr ⟨mk_7_0, List.forall_mem_cons.mpr ⟨mk_7_1, List.forall_mem_cons.mpr ⟨mk_7_2, List.forall_mem_cons.mpr ⟨mk_7_3, List.forall_mem_cons.mpr ⟨mk_7_4, List.forall_mem_cons.mpr ⟨mk_7_5, List.forall_mem_cons.mpr ⟨mk_7_6, List.forall_mem_cons.mpr ⟨mk_7_7, List.forall_mem_cons.mpr ⟨mk_7_8, List.forall_mem_cons.mpr ⟨mk_7_9, List.forall_mem_cons.mpr ⟨mk_7_10, List.forall_mem_cons.mpr ⟨mk_7_11, List.forall_mem_cons.mpr ⟨mk_7_12, List.forall_mem_cons.mpr ⟨mk_7_13, List.forall_mem_cons.mpr ⟨mk_7_14, List.forall_mem_cons.mpr ⟨mk_7_15, List.forall_mem_cons.mpr ⟨mk_7_16, List.forall_mem_cons.mpr ⟨mk_7_17, List.forall_mem_cons.mpr ⟨mk_7_18, List.forall_mem_cons.mpr ⟨mk_7_19, List.forall_mem_cons.mpr ⟨mk_7_20, List.forall_mem_cons.mpr ⟨mk_7_21, List.forall_mem_cons.mpr ⟨mk_7_22, List.forall_mem_cons.mpr ⟨mk_7_23, List.forall_mem_cons.mpr ⟨mk_7_24, List.forall_mem_cons.mpr ⟨mk_7_25, List.forall_mem_cons.mpr ⟨mk_7_26, List.forall_mem_cons.mpr ⟨mk_7_27, List.forall_mem_cons.mpr ⟨mk_7_28, List.forall_mem_cons.mpr ⟨mk_7_29, List.forall_mem_cons.mpr ⟨mk_7_30, List.forall_mem_cons.mpr ⟨mk_7_31, List.forall_mem_cons.mpr ⟨mk_7_32, List.forall_mem_cons.mpr ⟨mk_7_33, List.forall_mem_cons.mpr ⟨mk_7_34, List.forall_mem_cons.mpr ⟨mk_7_35, List.forall_mem_cons.mpr ⟨mk_7_36, List.forall_mem_cons.mpr ⟨mk_7_37, List.forall_mem_cons.mpr ⟨mk_7_38, List.forall_mem_cons.mpr ⟨mk_7_39, List.forall_mem_cons.mpr ⟨mk_7_40, List.forall_mem_cons.mpr ⟨mk_7_41, List.forall_mem_cons.mpr ⟨mk_7_42, List.forall_mem_cons.mpr ⟨mk_7_43, List.forall_mem_cons.mpr ⟨mk_7_44, List.forall_mem_cons.mpr ⟨mk_7_45, List.forall_mem_cons.mpr ⟨mk_7_46, List.forall_mem_cons.mpr ⟨mk_7_47, List.forall_mem_cons.mpr ⟨mk_7_48, List.forall_mem_cons.mpr ⟨mk_7_49, List.forall_mem_cons.mpr ⟨mk_7_50, List.forall_mem_cons.mpr ⟨mk_7_51, fun _ h => absurd h List.not_mem_nil⟩⟩⟩⟩⟩⟩⟩⟩⟩⟩⟩⟩⟩⟩⟩⟩⟩⟩⟩⟩⟩⟩⟩⟩⟩⟩⟩⟩⟩⟩⟩⟩⟩⟩⟩⟩⟩⟩⟩⟩⟩⟩⟩⟩⟩⟩⟩⟩⟩⟩⟩⟩
set_option maxRecDepth 20000 in
theorem mK_8 : ∀ q ∈ m_calls_8, m_callOk RJ13 q := fun _ h => absurd h List.not_mem_nil
set_option maxRecDepth 20000 in
theorem mK_9 : ∀ q ∈ m_calls_9, m_callOk RJ9 q := fun _ h => absurd h List.not_mem_nil
set_option maxRecDepth 20000 in
theorem m_calls_ok : ∀ (o : Nat) (q : _), q ∈ m_calls o → m_callOk (m_ows.getD o "") q := by
  intro o q h
  match o, h with
  | 0, h => exact mK_0 q h
  | 1, h => exact mK_1 q h
  | 2, h => exact mK_2 q h
  | 3, h => exact mK_3 q h
  | 4, h => exact mK_4 q h
  | 5, h => exact mK_5 q h
  | 6, h => exact mK_6 q h
  | 7, h => exact mK_7 q h
  | 8, h => exact mK_8 q h
  | 9, h => exact mK_9 q h
  | o + 10, h => exact absurd h (by simp [m_calls])
def m_tco (t : FieldType) : Nat := match t with
  | .long => 1
  | .object _ => 2
  | .array _ => 2
  | .boolean => 3
  | _ => 0
def m_fldOk (own : String) (q : Nat × Nat × Nat × Nat) : Prop := q.2.1 < 7 ∧ q.2.2.1 < m_N q.2.1 ∧ m_tco (m_ty q.2.1 q.2.2.1) = q.2.2.2 ∧ (q.2.2.2 = 0 → m_ty q.2.1 q.2.2.1 = .int) ∧ Cond.fieldLink own q.1 (m_T q.2.1 q.2.2.1).1 (m_T q.2.1 q.2.2.1).2.1 (m_T q.2.1 q.2.2.1).2.2.1 ∈ m_gw ∧ (m_T q.2.1 q.2.2.1).1 = m_C q.2.1
set_option maxRecDepth 20000 in
theorem mf_0_0 : m_fldOk RX0 (18, 0, 0, 0) := ⟨by decide, by decide, rfl, (fun _ => rfl), m_at 104 rfl rfl, rfl⟩
set_option maxRecDepth 20000 in
theorem mf_0_1 : m_fldOk RX0 (22, 0, 1, 0) := ⟨by decide, by decide, rfl, (fun _ => rfl), m_at 107 rfl rfl, rfl⟩
set_option maxRecDepth 20000 in
theorem mf_0_2 : m_fldOk RX0 (25, 0, 2, 0) := ⟨by decide, by decide, rfl, (fun _ => rfl), m_at 110 rfl rfl, rfl⟩
set_option maxRecDepth 20000 in
theorem mf_0_3 : m_fldOk RX0 (28, 0, 3, 0) := ⟨by decide, by decide, rfl, (fun _ => rfl), m_at 114 rfl rfl, rfl⟩
set_option maxRecDepth 20000 in
theorem mf_0_4 : m_fldOk RX0 (31, 0, 4, 0) := ⟨by decide, by decide, rfl, (fun _ => rfl), m_at 117 rfl rfl, rfl⟩
set_option maxRecDepth 20000 in
theorem mf_0_5 : m_fldOk RX0 (34, 0, 5, 0) := ⟨by decide, by decide, rfl, (fun _ => rfl), m_at 122 rfl rfl, rfl⟩
set_option maxRecDepth 20000 in
theorem mf_0_6 : m_fldOk RX0 (37, 0, 6, 3) := ⟨by decide, by decide, rfl, (fun h => absurd h (by decide)), m_at 125 rfl rfl, rfl⟩
set_option maxRecDepth 20000 in
theorem mf_0_7 : m_fldOk RX0 (41, 0, 7, 1) := ⟨by decide, by decide, rfl, (fun h => absurd h (by decide)), m_at 127 rfl rfl, rfl⟩
set_option maxRecDepth 20000 in
theorem mf_0_8 : m_fldOk RX0 (9, 0, 8, 2) := ⟨by decide, by decide, rfl, (fun h => absurd h (by decide)), m_at 128 rfl rfl, rfl⟩
set_option maxRecDepth 20000 in
theorem mF_0 : ∀ q ∈ m_flds_0, m_fldOk RX0 q := List.forall_mem_cons.mpr ⟨mf_0_0, List.forall_mem_cons.mpr ⟨mf_0_1, List.forall_mem_cons.mpr ⟨mf_0_2, List.forall_mem_cons.mpr ⟨mf_0_3, List.forall_mem_cons.mpr ⟨mf_0_4, List.forall_mem_cons.mpr ⟨mf_0_5, List.forall_mem_cons.mpr ⟨mf_0_6, List.forall_mem_cons.mpr ⟨mf_0_7, List.forall_mem_cons.mpr ⟨mf_0_8, fun _ h => absurd h List.not_mem_nil⟩⟩⟩⟩⟩⟩⟩⟩⟩
set_option maxRecDepth 20000 in
theorem mf_1_0 : m_fldOk RX1 (42, 0, 4, 0) := ⟨by decide, by decide, rfl, (fun _ => rfl), m_at 118 rfl rfl, rfl⟩
set_option maxRecDepth 20000 in
theorem mf_1_1 : m_fldOk RX1 (29, 0, 5, 0) := ⟨by decide, by decide, rfl, (fun _ => rfl), m_at 121 rfl rfl, rfl⟩
set_option maxRecDepth 20000 in
theorem mf_1_2 : m_fldOk RX1 (19, 0, 7, 1) := ⟨by decide, by decide, rfl, (fun h => absurd h (by decide)), m_at 126 rfl rfl, rfl⟩
set_option maxRecDepth 20000 in
theorem mf_1_3 : m_fldOk RX1 (15, 1, 0, 0) := ⟨by decide, by decide, rfl, (fun _ => rfl), m_at 155 rfl rfl, rfl⟩
set_option maxRecDepth 20000 in
theorem mf_1_4 : m_fldOk RX1 (32, 1, 1, 0) := ⟨by decide, by decide, rfl, (fun _ => rfl), m_at 157 rfl rfl, rfl⟩
set_option maxRecDepth 20000 in
theorem mf_1_5 : m_fldOk RX1 (26, 1, 2, 0) := ⟨by decide, by decide, rfl, (fun _ => rfl), m_at 159 rfl rfl, rfl⟩
set_option maxRecDepth 20000 in
theorem mf_1_6 : m_fldOk RX1 (35, 1, 3, 0) := ⟨by decide, by decide, rfl, (fun _ => rfl), m_at 161 rfl rfl, rfl⟩
set_option maxRecDepth 20000 in
theorem mf_1_7 : m_fldOk RX1 (25, 1, 4, 1) := ⟨by decide, by decide, rfl, (fun h => absurd h (by decide)), m_at 163 rfl rfl, rfl⟩
set_option maxRecDepth 20000 in
theorem mf_1_8 : m_fldOk RX1 (9, 1, 5, 2) := ⟨by decide, by decide, rfl, (fun h => absurd h (by decide)), m_at 165 rfl rfl, rfl⟩
set_option maxRecDepth 20000 in
theorem mF_1 : ∀ q ∈ m_flds_1, m_fldOk RX1 q := List.forall_mem_cons.mpr ⟨mf_1_0, List.forall_mem_cons.mpr ⟨mf_1_1, List.forall_mem_cons.mpr ⟨mf_1_2, List.forall_mem_cons.mpr ⟨mf_1_3, List.forall_mem_cons.mpr ⟨mf_1_4, List.forall_mem_cons.mpr ⟨mf_1_5, List.forall_mem_cons.mpr ⟨mf_1_6, List.forall_mem_cons.mpr ⟨mf_1_7, List.forall_mem_cons.mpr ⟨mf_1_8, fun _ h => absurd h List.not_mem_nil⟩⟩⟩⟩⟩⟩⟩⟩⟩
set_option maxRecDepth 20000 in
theorem mf_2_0 : m_fldOk RX2 (46, 0, 2, 0) := ⟨by decide, by decide, rfl, (fun _ => rfl), m_at 111 rfl rfl, rfl⟩
set_option maxRecDepth 20000 in
theorem mf_2_1 : m_fldOk RX2 (68, 3, 0, 0) := ⟨by decide, by decide, rfl, (fun _ => rfl), m_at 187 rfl rfl, rfl⟩
set_option maxRecDepth 20000 in
theorem mf_2_2 : m_fldOk RX2 (54, 3, 3, 3) := ⟨by decide, by decide, rfl, (fun h => absurd h (by decide)), m_at 193 rfl rfl, rfl⟩
set_option maxRecDepth 20000 in
theorem mf_2_3 : m_fldOk RX2 (9, 2, 0, 2) := ⟨by decide, by decide, rfl, (fun h => absurd h (by decide)), m_at 212 rfl rfl, rfl⟩
set_option maxRecDepth 20000 in
theorem mf_2_4 : m_fldOk RX2 (15, 2, 1, 2) := ⟨by decide, by decide, rfl, (fun h => absurd h (by decide)), m_at 213 rfl rfl, rfl⟩
set_option maxRecDepth 20000 in
theorem mf_2_5 : m_fldOk RX2 (18, 2, 2, 2) := ⟨by decide, by decide, rfl, (fun h => absurd h (by decide)), m_at 214 rfl rfl, rfl⟩
set_option maxRecDepth 20000 in
theorem mf_2_6 : m_fldOk RX2 (25, 2, 3, 2) := ⟨by decide, by decide, rfl, (fun h => absurd h (by decide)), m_at 215 rfl rfl, rfl⟩
set_option maxRecDepth 20000 in
theorem mF_2 : ∀ q ∈ m_flds_2, m_fldOk RX2 q := List.forall_mem_cons.mpr ⟨mf_2_0, List.forall_mem_cons.mpr ⟨mf_2_1, List.forall_mem_cons.mpr ⟨mf_2_2, List.forall_mem_cons.mpr ⟨mf_2_3, List.forall_mem_cons.mpr ⟨mf_2_4, List.forall_mem_cons.mpr ⟨mf_2_5, List.forall_mem_cons.mpr ⟨mf_2_6, fun _ h => absurd h List.not_mem_nil⟩⟩⟩⟩⟩⟩⟩
set_option maxRecDepth 20000 in
theorem mf_3_0 : m_fldOk RX3 (9, 3, 0, 0) := ⟨by decide, by decide, rfl, (fun _ => rfl), m_at 186 rfl rfl, rfl⟩
set_option maxRecDepth 20000 in
theorem mf_3_1 : m_fldOk RX3 (15, 3, 1, 0) := ⟨by decide, by decide, rfl, (fun _ => rfl), m_at 189 rfl rfl, rfl⟩
set_option maxRecDepth 20000 in
theorem mf_3_2 : m_fldOk RX3 (18, 3, 2, 0) := ⟨by decide, by decide, rfl, (fun _ => rfl), m_at 191 rfl rfl, rfl⟩
set_option maxRecDepth 20000 in
theorem mf_3_3 : m_fldOk RX3 (21, 3, 3, 3) := ⟨by decide, by decide, rfl, (fun h => absurd h (by decide)), m_at 192 rfl rfl, rfl⟩
set_option maxRecDepth 20000 in
theorem mF_3 : ∀ q ∈ m_flds_3, m_fldOk RX3 q := List.forall_mem_cons.mpr ⟨mf_3_0, List.forall_mem_cons.mpr ⟨mf_3_1, List.forall_mem_cons.mpr ⟨mf_3_2, List.forall_mem_cons.mpr ⟨mf_3_3, fun _ h => absurd h List.not_mem_nil⟩⟩⟩⟩
set_option maxRecDepth 20000 in
theorem mf_4_0 : m_fldOk RX4 (9, 4, 0, 2) := ⟨by decide, by decide, rfl, (fun h => absurd h (by decide)), m_at 64 rfl rfl, rfl⟩
set_option maxRecDepth 20000 in
theorem mf_4_1 : m_fldOk RX4 (15, 4, 1, 0) := ⟨by decide, by decide, rfl, (fun _ => rfl), m_at 65 rfl rfl, rfl⟩
set_option maxRecDepth 20000 in
theorem mf_4_2 : m_fldOk RX4 (24, 4, 2, 0) := ⟨by decide, by decide, rfl, (fun _ => rfl), m_at 67 rfl rfl, rfl⟩
set_option maxRecDepth 20000 in
theorem mf_4_3 : m_fldOk RX4 (47, 4, 3, 0) := ⟨by decide, by decide, rfl, (fun _ => rfl), m_at 68 rfl rfl, rfl⟩
set_option maxRecDepth 20000 in
theorem mf_4_4 : m_fldOk RX4 (40, 4, 4, 0) := ⟨by decide, by decide, rfl, (fun _ => rfl), m_at 69 rfl rfl, rfl⟩
set_option maxRecDepth 20000 in
theorem mf_4_5 : m_fldOk RX4 (69, 4, 5, 0) := ⟨by decide, by decide, rfl, (fun _ => rfl), m_at 70 rfl rfl, rfl⟩
set_option maxRecDepth 20000 in
theorem mf_4_6 : m_fldOk RX4 (27, 4, 6, 0) := ⟨by decide, by decide, rfl, (fun _ => rfl), m_at 71 rfl rfl, rfl⟩
set_option maxRecDepth 20000 in
theorem mf_4_7 : m_fldOk RX4 (30, 4, 7, 3) := ⟨by decide, by decide, rfl, (fun h => absurd h (by decide)), m_at 72 rfl rfl, rfl⟩
set_option maxRecDepth 20000 in
theorem mf_4_8 : m_fldOk RX4 (34, 4, 8, 3) := ⟨by decide, by decide, rfl, (fun h => absurd h (by decide)), m_at 73 rfl rfl, rfl⟩
set_option maxRecDepth 20000 in
theorem mf_4_9 : m_fldOk RX4 (72, 0, 0, 0) := ⟨by decide, by decide, rfl, (fun _ => rfl), m_at 105 rfl rfl, rfl⟩
set_option maxRecDepth 20000 in
theorem mf_4_10 : m_fldOk RX4 (79, 0, 1, 0) := ⟨by decide, by decide, rfl, (fun _ => rfl), m_at 108 rfl rfl, rfl⟩
set_option maxRecDepth 20000 in
theorem mf_4_11 : m_fldOk RX4 (96, 0, 2, 0) := ⟨by decide, by decide, rfl, (fun _ => rfl), m_at 112 rfl rfl, rfl⟩
set_option maxRecDepth 20000 in
theorem mf_4_12 : m_fldOk RX4 (99, 0, 3, 0) := ⟨by decide, by decide, rfl, (fun _ => rfl), m_at 115 rfl rfl, rfl⟩
set_option maxRecDepth 20000 in
theorem mf_4_13 : m_fldOk RX4 (102, 0, 4, 0) := ⟨by decide, by decide, rfl, (fun _ => rfl), m_at 120 rfl rfl, rfl⟩
set_option maxRecDepth 20000 in
theorem mf_4_14 : m_fldOk RX4 (82, 0, 5, 0) := ⟨by decide, by decide, rfl, (fun _ => rfl), m_at 123 rfl rfl, rfl⟩
set_option maxRecDepth 20000 in
theorem mF_4 : ∀ q ∈ m_flds_4, m_fldOk RX4 q := List.forall_mem_cons.mpr ⟨mf_4_0, List.forall_mem_cons.mpr ⟨mf_4_1, List.forall_mem_cons.mpr ⟨mf_4_2, List.forall_mem_cons.mpr ⟨mf_4_3, List.forall_mem_cons.mpr ⟨mf_4_4, List.forall_mem_cons.mpr ⟨mf_4_5, List.forall_mem_cons.mpr ⟨mf_4_6, List.forall_mem_cons.mpr ⟨mf_4_7, List.forall_mem_cons.mpr ⟨mf_4_8, List.forall_mem_cons.mpr ⟨mf_4_9, List.forall_mem_cons.mpr ⟨mf_4_10, List.forall_mem_cons.mpr ⟨mf_4_11, List.forall_mem_cons.mpr ⟨mf_4_12, List.forall_mem_cons.mpr ⟨mf_4_13, List.forall_mem_cons.mpr ⟨mf_4_14, fun _ h => absurd h List.not_mem_nil⟩⟩⟩⟩⟩⟩⟩⟩⟩⟩⟩⟩⟩⟩⟩
set_option maxRecDepth 20000 in
theorem mf_5_0 : m_fldOk RX5 (70, 4, 1, 0) := ⟨by decide, by decide, rfl, (fun _ => rfl), m_at 66 rfl rfl, rfl⟩
set_option maxRecDepth 20000 in
theorem mf_5_1 : m_fldOk RX5 (260, 0, 0, 0) := ⟨by decide, by decide, rfl, (fun _ => rfl), m_at 106 rfl rfl, rfl⟩
set_option maxRecDepth 20000 in
theorem mf_5_2 : m_fldOk RX5 (263, 0, 1, 0) := ⟨by decide, by decide, rfl, (fun _ => rfl), m_at 109 rfl rfl, rfl⟩
set_option maxRecDepth 20000 in
theorem mf_5_3 : m_fldOk RX5 (184, 0, 2, 0) := ⟨by decide, by decide, rfl, (fun _ => rfl), m_at 113 rfl rfl, rfl⟩
set_option maxRecDepth 20000 in
theorem mf_5_4 : m_fldOk RX5 (266, 0, 3, 0) := ⟨by decide, by decide, rfl, (fun _ => rfl), m_at 116 rfl rfl, rfl⟩
set_option maxRecDepth 20000 in
theorem mf_5_5 : m_fldOk RX5 (102, 0, 4, 0) := ⟨by decide, by decide, rfl, (fun _ => rfl), m_at 119 rfl rfl, rfl⟩
set_option maxRecDepth 20000 in
theorem mf_5_6 : m_fldOk RX5 (181, 0, 5, 0) := ⟨by decide, by decide, rfl, (fun _ => rfl), m_at 124 rfl rfl, rfl⟩
set_option maxRecDepth 20000 in
theorem mf_5_7 : m_fldOk RX5 (108, 1, 0, 0) := ⟨by decide, by decide, rfl, (fun _ => rfl), m_at 156 rfl rfl, rfl⟩
set_option maxRecDepth 20000 in
theorem mf_5_8 : m_fldOk RX5 (114, 1, 1, 0) := ⟨by decide, by decide, rfl, (fun _ => rfl), m_at 158 rfl rfl, rfl⟩
set_option maxRecDepth 20000 in
theorem mf_5_9 : m_fldOk RX5 (120, 1, 2, 0) := ⟨by decide, by decide, rfl, (fun _ => rfl), m_at 160 rfl rfl, rfl⟩
set_option maxRecDepth 20000 in
theorem mf_5_10 : m_fldOk RX5 (111, 1, 3, 0) := ⟨by decide, by decide, rfl, (fun _ => rfl), m_at 162 rfl rfl, rfl⟩
set_option maxRecDepth 20000 in
theorem mf_5_11 : m_fldOk RX5 (154, 1, 4, 1) := ⟨by decide, by decide, rfl, (fun h => absurd h (by decide)), m_at 164 rfl rfl, rfl⟩
set_option maxRecDepth 20000 in
theorem mf_5_12 : m_fldOk RX5 (142, 3, 0, 0) := ⟨by decide, by decide, rfl, (fun _ => rfl), m_at 188 rfl rfl, rfl⟩
set_option maxRecDepth 20000 in
theorem mf_5_13 : m_fldOk RX5 (137, 3, 1, 0) := ⟨by decide, by decide, rfl, (fun _ => rfl), m_at 190 rfl rfl, rfl⟩
set_option maxRecDepth 20000 in
theorem mf_5_14 : m_fldOk RX5 (12, 5, 0, 2) := ⟨by decide, by decide, rfl, (fun h => absurd h (by decide)), m_at 230 rfl rfl, rfl⟩
set_option maxRecDepth 20000 in
theorem mf_5_15 : m_fldOk RX5 (19, 5, 1, 2) := ⟨by decide, by decide, rfl, (fun h => absurd h (by decide)), m_at 231 rfl rfl, rfl⟩
set_option maxRecDepth 20000 in
theorem mf_5_16 : m_fldOk RX5 (23, 5, 2, 2) := ⟨by decide, by decide, rfl, (fun h => absurd h (by decide)), m_at 232 rfl rfl, rfl⟩
set_option maxRecDepth 20000 in
theorem mf_5_17 : m_fldOk RX5 (29, 5, 3, 2) := ⟨by decide, by decide, rfl, (fun h => absurd h (by decide)), m_at 233 rfl rfl, rfl⟩
set_option maxRecDepth 20000 in
theorem mf_5_18 : m_fldOk RX5 (33, 5, 4, 2) := ⟨by decide, by decide, rfl, (fun h => absurd h (by decide)), m_at 234 rfl rfl, rfl⟩
set_option maxRecDepth 20000 in
theorem mf_5_19 : m_fldOk RX5 (162, 5, 5, 0) := ⟨by decide, by decide, rfl, (fun _ => rfl), m_at 235 rfl rfl, rfl⟩
set_option maxRecDepth 20000 in
theorem mf_5_20 : m_fldOk RX5 (84, 5, 6, 0) := ⟨by decide, by decide, rfl, (fun _ => rfl), m_at 236 rfl rfl, rfl⟩
set_option maxRecDepth 20000 in
theorem mf_5_21 : m_fldOk RX5 (37, 5, 7, 2) := ⟨by decide, by decide, rfl, (fun h => absurd h (by decide)), m_at 237 rfl rfl, rfl⟩
set_option maxRecDepth 20000 in
theorem mf_5_22 : m_fldOk RX5 (40, 5, 8, 2) := ⟨by decide, by decide, rfl, (fun h => absurd h (by decide)), m_at 238 rfl rfl, rfl⟩
set_option maxRecDepth 20000 in
theorem mf_5_23 : m_fldOk RX5 (44, 5, 9, 2) := ⟨by decide, by decide, rfl, (fun h => absurd h (by decide)), m_at 239 rfl rfl, rfl⟩
set_option maxRecDepth 20000 in
theorem mf_5_24 : m_fldOk RX5 (81, 5, 10, 0) := ⟨by decide, by decide, rfl, (fun _ => rfl), m_at 240 rfl rfl, rfl⟩
set_option maxRecDepth 20000 in
theorem mf_5_25 : m_fldOk RX5 (51, 5, 11, 2) := ⟨by decide, by decide, rfl, (fun h => absurd h (by decide)), m_at 241 rfl rfl, rfl⟩
set_option maxRecDepth 20000 in
theorem mf_5_26 : m_fldOk RX5 (58, 5, 12, 2) := ⟨by decide, by decide, rfl, (fun h => absurd h (by decide)), m_at 242 rfl rfl, rfl⟩
set_option maxRecDepth 20000 in
theorem mf_5_27 : m_fldOk RX5 (244, 5, 13, 1) := ⟨by decide, by decide, rfl, (fun h => absurd h (by decide)), m_at 243 rfl rfl, rfl⟩
set_option maxRecDepth 20000 in
theorem mF_5 : ∀ q ∈ m_flds_5, m_fldOk RX5 q := List.forall_mem_cons.mpr ⟨mf_5_0, List.forall_mem_cons.mpr ⟨mf_5_1, List.forall_mem_cons.mpr ⟨mf_5_2, List.forall_mem_cons.mpr ⟨mf_5_3, List.forall_mem_cons.mpr ⟨mf_5_4, List.forall_mem_cons.mpr ⟨mf_5_5, List.forall_mem_cons.mpr ⟨mf_5_6, List.forall_mem_cons.mpr ⟨mf_5_7, List.forall_mem_cons.mpr ⟨mf_5_8, List.forall_mem_cons.mpr ⟨mf_5_9, List.forall_mem_cons.mpr ⟨mf_5_10, List.forall_mem_cons.mpr ⟨mf_5_11, List.forall_mem_cons.mpr ⟨mf_5_12, List.forall_mem_cons.mpr ⟨mf_5_13, List.forall_mem_cons.mpr ⟨mf_5_14, List.forall_mem_cons.mpr ⟨mf_5_15, List.forall_mem_cons.mpr ⟨mf_5_16, List.forall_mem_cons.mpr ⟨mf_5_17, List.forall_mem_cons.mpr ⟨mf_5_18, List.forall_mem_cons.mpr ⟨mf_5_19, List.forall_mem_cons.mpr ⟨mf_5_20, List.forall_mem_cons.mpr ⟨mf_5_21, List.forall_mem_cons.mpr ⟨mf_5_22, List.forall_mem_cons.mpr ⟨mf_5_23, List.forall_mem_cons.mpr ⟨mf_5_24, List.forall_mem_cons.mpr ⟨mf_5_25, List.forall_mem_cons.mpr ⟨mf_5_26, List.forall_mem_cons.mpr ⟨mf_5_27, fun _ h => absurd h List.not_mem_nil⟩⟩⟩⟩⟩⟩⟩⟩⟩⟩⟩⟩⟩⟩⟩⟩⟩⟩⟩⟩⟩⟩⟩⟩⟩⟩⟩⟩
set_option maxRecDepth 20000 in
theorem mf_6_0 : m_fldOk RX6 (48, 6, 0, 0) := ⟨by decide, by decide, rfl, (fun _ => rfl), m_at 625 rfl rfl, rfl⟩
set_option maxRecDepth 20000 in
theorem mf_6_1 : m_fldOk RX6 (55, 6, 1, 0) := ⟨by decide, by decide, rfl, (fun _ => rfl), m_at 626 rfl rfl, rfl⟩
set_option maxRecDepth 20000 in
theorem mf_6_2 : m_fldOk RX6 (7, 6, 2, 0) := ⟨by decide, by decide, rfl, (fun _ => rfl), m_at 627 rfl rfl, rfl⟩
set_option maxRecDepth 20000 in
theorem mf_6_3 : m_fldOk RX6 (134, 6, 3, 0) := ⟨by decide, by decide, rfl, (fun _ => rfl), m_at 628 rfl rfl, rfl⟩
set_option maxRecDepth 20000 in
theorem mf_6_4 : m_fldOk RX6 (13, 6, 4, 0) := ⟨by decide, by decide, rfl, (fun _ => rfl), m_at 629 rfl rfl, rfl⟩
set_option maxRecDepth 20000 in
theorem mf_6_5 : m_fldOk RX6 (16, 6, 5, 0) := ⟨by decide, by decide, rfl, (fun _ => rfl), m_at 630 rfl rfl, rfl⟩
set_option maxRecDepth 20000 in
theorem mf_6_6 : m_fldOk RX6 (19, 6, 6, 2) := ⟨by decide, by decide, rfl, (fun h => absurd h (by decide)), m_at 631 rfl rfl, rfl⟩
set_option maxRecDepth 20000 in
theorem mf_6_7 : m_fldOk RX6 (23, 6, 7, 2) := ⟨by decide, by decide, rfl, (fun h => absurd h (by decide)), m_at 632 rfl rfl, rfl⟩
set_option maxRecDepth 20000 in
theorem mf_6_8 : m_fldOk RX6 (137, 6, 8, 0) := ⟨by decide, by decide, rfl, (fun _ => rfl), m_at 633 rfl rfl, rfl⟩
set_option maxRecDepth 20000 in
theorem mf_6_9 : m_fldOk RX6 (26, 6, 9, 2) := ⟨by decide, by decide, rfl, (fun h => absurd h (by decide)), m_at 634 rfl rfl, rfl⟩
set_option maxRecDepth 20000 in
theorem mf_6_10 : m_fldOk RX6 (29, 6, 10, 2) := ⟨by decide, by decide, rfl, (fun h => absurd h (by decide)), m_at 635 rfl rfl, rfl⟩
set_option maxRecDepth 20000 in
theorem mf_6_11 : m_fldOk RX6 (140, 6, 11, 0) := ⟨by decide, by decide, rfl, (fun _ => rfl), m_at 636 rfl rfl, rfl⟩
set_option maxRecDepth 20000 in
theorem mf_6_12 : m_fldOk RX6 (33, 6, 12, 2) := ⟨by decide, by decide, rfl, (fun h => absurd h (by decide)), m_at 637 rfl rfl, rfl⟩
set_option maxRecDepth 20000 in
theorem mf_6_13 : m_fldOk RX6 (207, 6, 13, 1) := ⟨by decide, by decide, rfl, (fun h => absurd h (by decide)), m_at 638 rfl rfl, rfl⟩
set_option maxRecDepth 20000 in
theorem mf_6_14 : m_fldOk RX6 (36, 6, 14, 2) := ⟨by decide, by decide, rfl, (fun h => absurd h (by decide)), m_at 639 rfl rfl, rfl⟩
set_option maxRecDepth 20000 in
theorem mf_6_15 : m_fldOk RX6 (58, 6, 15, 0) := ⟨by decide, by decide, rfl, (fun _ => rfl), m_at 640 rfl rfl, rfl⟩
set_option maxRecDepth 20000 in
theorem mf_6_16 : m_fldOk RX6 (61, 6, 16, 0) := ⟨by decide, by decide, rfl, (fun _ => rfl), m_at 641 rfl rfl, rfl⟩
set_option maxRecDepth 20000 in
theorem mf_6_17 : m_fldOk RX6 (68, 6, 17, 0) := ⟨by decide, by decide, rfl, (fun _ => rfl), m_at 642 rfl rfl, rfl⟩
set_option maxRecDepth 20000 in
theorem mf_6_18 : m_fldOk RX6 (74, 6, 18, 0) := ⟨by decide, by decide, rfl, (fun _ => rfl), m_at 643 rfl rfl, rfl⟩
set_option maxRecDepth 20000 in
theorem mf_6_19 : m_fldOk RX6 (71, 6, 19, 0) := ⟨by decide, by decide, rfl, (fun _ => rfl), m_at 644 rfl rfl, rfl⟩
set_option maxRecDepth 20000 in
theorem mf_6_20 : m_fldOk RX6 (81, 6, 20, 3) := ⟨by decide, by decide, rfl, (fun h => absurd h (by decide)), m_at 645 rfl rfl, rfl⟩
set_option maxRecDepth 20000 in
theorem mf_6_21 : m_fldOk RX6 (107, 6, 21, 0) := ⟨by decide, by decide, rfl, (fun _ => rfl), m_at 646 rfl rfl, rfl⟩
set_option maxRecDepth 20000 in
theorem mf_6_22 : m_fldOk RX6 (88, 6, 22, 0) := ⟨by decide, by decide, rfl, (fun _ => rfl), m_at 647 rfl rfl, rfl⟩
set_option maxRecDepth 20000 in
theorem mf_6_23 : m_fldOk RX6 (97, 6, 23, 0) := ⟨by decide, by decide, rfl, (fun _ => rfl), m_at 648 rfl rfl, rfl⟩
set_option maxRecDepth 20000 in
theorem mf_6_24 : m_fldOk RX6 (110, 6, 24, 0) := ⟨by decide, by decide, rfl, (fun _ => rfl), m_at 649 rfl rfl, rfl⟩
set_option maxRecDepth 20000 in
theorem mf_6_25 : m_fldOk RX6 (125, 6, 25, 0) := ⟨by decide, by decide, rfl, (fun _ => rfl), m_at 650 rfl rfl, rfl⟩
set_option maxRecDepth 20000 in
theorem mf_6_26 : m_fldOk RX6 (113, 6, 26, 0) := ⟨by decide, by decide, rfl, (fun _ => rfl), m_at 651 rfl rfl, rfl⟩
set_option maxRecDepth 20000 in
theorem mf_6_27 : m_fldOk RX6 (104, 6, 27, 0) := ⟨by decide, by decide, rfl, (fun _ => rfl), m_at 652 rfl rfl, rfl⟩
set_option maxRecDepth 20000 in
theorem mf_6_28 : m_fldOk RX6 (94, 6, 28, 3) := ⟨by decide, by decide, rfl, (fun h => absurd h (by decide)), m_at 653 rfl rfl, rfl⟩
set_option maxRecDepth 20000 in
theorem mf_6_29 : m_fldOk RX6 (39, 6, 29, 2) := ⟨by decide, by decide, rfl, (fun h => absurd h (by decide)), m_at 654 rfl rfl, rfl⟩
set_option maxRecDepth 20000 in
theorem mf_6_30 : m_fldOk RX6 (143, 6, 30, 0) := ⟨by decide, by decide, rfl, (fun _ => rfl), m_at 655 rfl rfl, rfl⟩
set_option maxRecDepth 20000 in
theorem mf_6_31 : m_fldOk RX6 (42, 6, 31, 2) := ⟨by decide, by decide, rfl, (fun h => absurd h (by decide)), m_at 656 rfl rfl, rfl⟩
set_option maxRecDepth 20000 in
theorem mf_6_32 : m_fldOk RX6 (45, 6, 32, 2) := ⟨by decide, by decide, rfl, (fun h => absurd h (by decide)), m_at 657 rfl rfl, rfl⟩
set_option maxRecDepth 20000 in
theorem mF_6 : ∀ q ∈ m_flds_6, m_fldOk RX6 q := List.forall_mem_cons.mpr ⟨mf_6_0, List.forall_mem_cons.mpr ⟨mf_6_1, List.forall_mem_cons.mpr ⟨mf_6_2, List.forall_mem_cons.mpr ⟨mf_6_3, List.forall_mem_cons.mpr ⟨mf_6_4, List.forall_mem_cons.mpr ⟨mf_6_5, List.forall_mem_cons.mpr ⟨mf_6_6, List.forall_mem_cons.mpr ⟨mf_6_7, List.forall_mem_cons.mpr ⟨mf_6_8, List.forall_mem_cons.mpr ⟨mf_6_9, List.forall_mem_cons.mpr ⟨mf_6_10, List.forall_mem_cons.mpr ⟨mf_6_11, List.forall_mem_cons.mpr ⟨mf_6_12, List.forall_mem_cons.mpr ⟨mf_6_13, List.forall_mem_cons.mpr ⟨mf_6_14, List.forall_mem_cons.mpr ⟨mf_6_15, List.forall_mem_cons.mpr ⟨mf_6_16, List.forall_mem_cons.mpr ⟨mf_6_17, List.forall_mem_cons.mpr ⟨mf_6_18, List.forall_mem_cons.mpr ⟨mf_6_19, List.forall_mem_cons.mpr ⟨mf_6_20, List.forall_mem_cons.mpr ⟨mf_6_21, List.forall_mem_cons.mpr ⟨mf_6_22, List.forall_mem_cons.mpr ⟨mf_6_23, List.forall_mem_cons.mpr ⟨mf_6_24, List.forall_mem_cons.mpr ⟨mf_6_25, List.forall_mem_cons.mpr ⟨mf_6_26, List.forall_mem_cons.mpr ⟨mf_6_27, List.forall_mem_cons.mpr ⟨mf_6_28, List.forall_mem_cons.mpr ⟨mf_6_29, List.forall_mem_cons.mpr ⟨mf_6_30, List.forall_mem_cons.mpr ⟨mf_6_31, List.forall_mem_cons.mpr ⟨mf_6_32, fun _ h => absurd h List.not_mem_nil⟩⟩⟩⟩⟩⟩⟩⟩⟩⟩⟩⟩⟩⟩⟩⟩⟩⟩⟩⟩⟩⟩⟩⟩⟩⟩⟩⟩⟩⟩⟩⟩⟩
set_option maxRecDepth 20000 in
theorem mF_7 : ∀ q ∈ m_flds_7, m_fldOk RL q := fun _ h => absurd h List.not_mem_nil
set_option maxRecDepth 20000 in
theorem mF_8 : ∀ q ∈ m_flds_8, m_fldOk RJ13 q := fun _ h => absurd h List.not_mem_nil
set_option maxRecDepth 20000 in
theorem mF_9 : ∀ q ∈ m_flds_9, m_fldOk RJ9 q := fun _ h => absurd h List.not_mem_nil
set_option maxRecDepth 20000 in
theorem m_flds_ok : ∀ (o : Nat) (q : _), q ∈ m_flds o → m_fldOk (m_ows.getD o "") q := by
  intro o q h
  match o, h with
  | 0, h => exact mF_0 q h
  | 1, h => exact mF_1 q h
  | 2, h => exact mF_2 q h
  | 3, h => exact mF_3 q h
  | 4, h => exact mF_4 q h
  | 5, h => exact mF_5 q h
  | 6, h => exact mF_6 q h
  | 7, h => exact mF_7 q h
  | 8, h => exact mF_8 q h
  | 9, h => exact mF_9 q h
  | o + 10, h => exact absurd h (by simp [m_flds])
def m_clsOk (own : String) (q : Nat × Nat) : Prop := q.2 < 7 ∧ Cond.classLink own q.1 (m_C q.2) ∈ m_gw
set_option maxRecDepth 20000 in
theorem mC_0 : ∀ q ∈ m_clss_0, m_clsOk RX0 q := fun _ h => absurd h List.not_mem_nil
set_option maxRecDepth 20000 in
theorem mC_1 : ∀ q ∈ m_clss_1, m_clsOk RX1 q := fun _ h => absurd h List.not_mem_nil
set_option maxRecDepth 20000 in
theorem mC_2 : ∀ q ∈ m_clss_2, m_clsOk RX2 q := List.forall_mem_cons.mpr ⟨⟨by decide, m_at 210 rfl rfl⟩, fun _ h => absurd h List.not_mem_nil⟩
set_option maxRecDepth 20000 in
theorem mC_3 : ∀ q ∈ m_clss_3, m_clsOk RX3 q := fun _ h => absurd h List.not_mem_nil
set_option maxRecDepth 20000 in
theorem mC_4 : ∀ q ∈ m_clss_4, m_clsOk RX4 q := fun _ h => absurd h List.not_mem_nil
set_option maxRecDepth 20000 in
theorem mC_5 : ∀ q ∈ m_clss_5, m_clsOk RX5 q := List.forall_mem_cons.mpr ⟨⟨by decide, m_at 58 rfl rfl⟩, List.forall_mem_cons.mpr ⟨⟨by decide, m_at 94 rfl rfl⟩, List.forall_mem_cons.mpr ⟨⟨by decide, m_at 149 rfl rfl⟩, List.forall_mem_cons.mpr ⟨⟨by decide, m_at 180 rfl rfl⟩, List.forall_mem_cons.mpr ⟨⟨by decide, m_at 204 rfl rfl⟩, fun _ h => absurd h List.not_mem_nil⟩⟩⟩⟩⟩
set_option maxRecDepth 20000 in
theorem mC_6 : ∀ q ∈ m_clss_6, m_clsOk RX6 q := fun _ h => absurd h List.not_mem_nil
set_option maxRecDepth 20000 in
theorem mC_7 : ∀ q ∈ m_clss_7, m_clsOk RL q := List.forall_mem_cons.mpr ⟨⟨by decide, m_at 50 rfl rfl⟩, List.forall_mem_cons.mpr ⟨⟨by decide, m_at 619 rfl rfl⟩, fun _ h => absurd h List.not_mem_nil⟩⟩
set_option maxRecDepth 20000 in
theorem mC_8 : ∀ q ∈ m_clss_8, m_clsOk RJ13 q := fun _ h => absurd h List.not_mem_nil
set_option maxRecDepth 20000 in
theorem mC_9 : ∀ q ∈ m_clss_9, m_clsOk RJ9 q := fun _ h => absurd h List.not_mem_nil
set_option maxRecDepth 20000 in
theorem m_clss_ok : ∀ (o : Nat) (q : _), q ∈ m_clss o → m_clsOk (m_ows.getD o "") q := by
  intro o q h
  match o, h with
  | 0, h => exact mC_0 q h
  | 1, h => exact mC_1 q h
  | 2, h => exact mC_2 q h
  | 3, h => exact mC_3 q h
  | 4, h => exact mC_4 q h
  | 5, h => exact mC_5 q h
  | 6, h => exact mC_6 q h
  | 7, h => exact mC_7 q h
  | 8, h => exact mC_8 q h
  | 9, h => exact mC_9 q h
  | o + 10, h => exact absurd h (by simp [m_clss])
def m_cstOk (own : String) (q : Nat × Int32) : Prop := Cond.constant own q.1 q.2 ∈ m_gw
def m_lcsOk (own : String) (q : Nat × Int64) : Prop := Cond.constantLong own q.1 q.2 ∈ m_gw
set_option maxRecDepth 20000 in
theorem mI_0 : ∀ q ∈ m_csts_0, m_cstOk RX0 q := fun _ h => absurd h List.not_mem_nil
set_option maxRecDepth 20000 in
theorem mI_1 : ∀ q ∈ m_csts_1, m_cstOk RX1 q := fun _ h => absurd h List.not_mem_nil
set_option maxRecDepth 20000 in
theorem mI_2 : ∀ q ∈ m_csts_2, m_cstOk RX2 q := fun _ h => absurd h List.not_mem_nil
set_option maxRecDepth 20000 in
theorem mI_3 : ∀ q ∈ m_csts_3, m_cstOk RX3 q := fun _ h => absurd h List.not_mem_nil
set_option maxRecDepth 20000 in
theorem mI_4 : ∀ q ∈ m_csts_4, m_cstOk RX4 q := fun _ h => absurd h List.not_mem_nil
set_option maxRecDepth 20000 in
theorem mI_5 : ∀ q ∈ m_csts_5, m_cstOk RX5 q := List.forall_mem_cons.mpr ⟨m_at 424 rfl rfl, List.forall_mem_cons.mpr ⟨m_at 569 rfl rfl, fun _ h => absurd h List.not_mem_nil⟩⟩
set_option maxRecDepth 20000 in
theorem mI_6 : ∀ q ∈ m_csts_6, m_cstOk RX6 q := List.forall_mem_cons.mpr ⟨m_at 816 rfl rfl, List.forall_mem_cons.mpr ⟨m_at 928 rfl rfl, fun _ h => absurd h List.not_mem_nil⟩⟩
set_option maxRecDepth 20000 in
theorem mI_7 : ∀ q ∈ m_csts_7, m_cstOk RL q := fun _ h => absurd h List.not_mem_nil
set_option maxRecDepth 20000 in
theorem mI_8 : ∀ q ∈ m_csts_8, m_cstOk RJ13 q := fun _ h => absurd h List.not_mem_nil
set_option maxRecDepth 20000 in
theorem mI_9 : ∀ q ∈ m_csts_9, m_cstOk RJ9 q := fun _ h => absurd h List.not_mem_nil
set_option maxRecDepth 20000 in
theorem m_csts_ok : ∀ (o : Nat) (q : _), q ∈ m_csts o → m_cstOk (m_ows.getD o "") q := by
  intro o q h
  match o, h with
  | 0, h => exact mI_0 q h
  | 1, h => exact mI_1 q h
  | 2, h => exact mI_2 q h
  | 3, h => exact mI_3 q h
  | 4, h => exact mI_4 q h
  | 5, h => exact mI_5 q h
  | 6, h => exact mI_6 q h
  | 7, h => exact mI_7 q h
  | 8, h => exact mI_8 q h
  | 9, h => exact mI_9 q h
  | o + 10, h => exact absurd h (by simp [m_csts])
set_option maxRecDepth 20000 in
theorem mJ_0 : ∀ q ∈ m_lcss_0, m_lcsOk RX0 q := fun _ h => absurd h List.not_mem_nil
set_option maxRecDepth 20000 in
theorem mJ_1 : ∀ q ∈ m_lcss_1, m_lcsOk RX1 q := fun _ h => absurd h List.not_mem_nil
set_option maxRecDepth 20000 in
theorem mJ_2 : ∀ q ∈ m_lcss_2, m_lcsOk RX2 q := List.forall_mem_cons.mpr ⟨m_at 493 rfl rfl, fun _ h => absurd h List.not_mem_nil⟩
set_option maxRecDepth 20000 in
theorem mJ_3 : ∀ q ∈ m_lcss_3, m_lcsOk RX3 q := fun _ h => absurd h List.not_mem_nil
set_option maxRecDepth 20000 in
theorem mJ_4 : ∀ q ∈ m_lcss_4, m_lcsOk RX4 q := fun _ h => absurd h List.not_mem_nil
set_option maxRecDepth 20000 in
theorem mJ_5 : ∀ q ∈ m_lcss_5, m_lcsOk RX5 q := List.forall_mem_cons.mpr ⟨m_at 574 rfl rfl, List.forall_mem_cons.mpr ⟨m_at 583 rfl rfl, List.forall_mem_cons.mpr ⟨m_at 588 rfl rfl, List.forall_mem_cons.mpr ⟨m_at 593 rfl rfl, List.forall_mem_cons.mpr ⟨m_at 598 rfl rfl, fun _ h => absurd h List.not_mem_nil⟩⟩⟩⟩⟩
set_option maxRecDepth 20000 in
theorem mJ_6 : ∀ q ∈ m_lcss_6, m_lcsOk RX6 q := List.forall_mem_cons.mpr ⟨m_at 923 rfl rfl, List.forall_mem_cons.mpr ⟨m_at 924 rfl rfl, List.forall_mem_cons.mpr ⟨m_at 925 rfl rfl, List.forall_mem_cons.mpr ⟨m_at 926 rfl rfl, List.forall_mem_cons.mpr ⟨m_at 927 rfl rfl, fun _ h => absurd h List.not_mem_nil⟩⟩⟩⟩⟩
set_option maxRecDepth 20000 in
theorem mJ_7 : ∀ q ∈ m_lcss_7, m_lcsOk RL q := fun _ h => absurd h List.not_mem_nil
set_option maxRecDepth 20000 in
theorem mJ_8 : ∀ q ∈ m_lcss_8, m_lcsOk RJ13 q := List.forall_mem_cons.mpr ⟨m_at 458 rfl rfl, List.forall_mem_cons.mpr ⟨m_at 459 rfl rfl, List.forall_mem_cons.mpr ⟨m_at 460 rfl rfl, fun _ h => absurd h List.not_mem_nil⟩⟩⟩
set_option maxRecDepth 20000 in
theorem mJ_9 : ∀ q ∈ m_lcss_9, m_lcsOk RJ9 q := fun _ h => absurd h List.not_mem_nil
set_option maxRecDepth 20000 in
theorem m_lcss_ok : ∀ (o : Nat) (q : _), q ∈ m_lcss o → m_lcsOk (m_ows.getD o "") q := by
  intro o q h
  match o, h with
  | 0, h => exact mJ_0 q h
  | 1, h => exact mJ_1 q h
  | 2, h => exact mJ_2 q h
  | 3, h => exact mJ_3 q h
  | 4, h => exact mJ_4 q h
  | 5, h => exact mJ_5 q h
  | 6, h => exact mJ_6 q h
  | 7, h => exact mJ_7 q h
  | 8, h => exact mJ_8 q h
  | 9, h => exact mJ_9 q h
  | o + 10, h => exact absurd h (by simp [m_lcss])
def m_clOk (ci : Nat) : Prop := vwCl[ci]? = some (m_C ci, m_T ci, m_N ci) ∧ (∀ w ∈ u_ws (m_C ci) (m_T ci) (m_N ci), w ∈ m_gw) ∧ (∀ k, k < m_N ci → parseFieldDescriptor (m_T ci k).2.2.1 = some (m_ty ci k)) ∧ (∀ a, a < m_N ci → ∀ b, b < m_N ci → a ≠ b → (m_T ci a).2.1 ≠ (m_T ci b).2.1) ∧ Cond.instantiable (m_C ci) (m_N ci) ∈ m_gw ∧ Cond.initialized (m_C ci) ∈ m_gw
set_option maxRecDepth 20000 in
theorem ml_0 : ∀ w ∈ wsX00, w ∈ m_gw := by
  intro w h
  have h : w ∈ ([u_lay RX0 TX0 0, u_lay RX0 TX0 1, u_lay RX0 TX0 2, u_lay RX0 TX0 3, u_lay RX0 TX0 4, u_lay RX0 TX0 5, u_lay RX0 TX0 6, u_lay RX0 TX0 7, u_lay RX0 TX0 8] : List Cond) := h
  exact (List.forall_mem_cons.mpr ⟨m_at 129 rfl rfl, List.forall_mem_cons.mpr ⟨m_at 131 rfl rfl, List.forall_mem_cons.mpr ⟨m_at 133 rfl rfl, List.forall_mem_cons.mpr ⟨m_at 135 rfl rfl, List.forall_mem_cons.mpr ⟨m_at 137 rfl rfl, List.forall_mem_cons.mpr ⟨m_at 139 rfl rfl, List.forall_mem_cons.mpr ⟨m_at 141 rfl rfl, List.forall_mem_cons.mpr ⟨m_at 143 rfl rfl, List.forall_mem_cons.mpr ⟨m_at 145 rfl rfl, fun _ h => absurd h List.not_mem_nil⟩⟩⟩⟩⟩⟩⟩⟩⟩ : ∀ w ∈ ([u_lay RX0 TX0 0, u_lay RX0 TX0 1, u_lay RX0 TX0 2, u_lay RX0 TX0 3, u_lay RX0 TX0 4, u_lay RX0 TX0 5, u_lay RX0 TX0 6, u_lay RX0 TX0 7, u_lay RX0 TX0 8] : List Cond), w ∈ m_gw) w h
set_option maxRecDepth 20000 in
theorem mL_0 : m_clOk 0 := ⟨rfl, ml_0, tyX0_ok, nmX0, m_at 95 rfl rfl, m_at 43 rfl rfl⟩
set_option maxRecDepth 20000 in
theorem ml_1 : ∀ w ∈ wsX10, w ∈ m_gw := by
  intro w h
  have h : w ∈ ([u_lay RX1 TX1 0, u_lay RX1 TX1 1, u_lay RX1 TX1 2, u_lay RX1 TX1 3, u_lay RX1 TX1 4, u_lay RX1 TX1 5] : List Cond) := h
  exact (List.forall_mem_cons.mpr ⟨m_at 166 rfl rfl, List.forall_mem_cons.mpr ⟨m_at 168 rfl rfl, List.forall_mem_cons.mpr ⟨m_at 170 rfl rfl, List.forall_mem_cons.mpr ⟨m_at 172 rfl rfl, List.forall_mem_cons.mpr ⟨m_at 174 rfl rfl, List.forall_mem_cons.mpr ⟨m_at 176 rfl rfl, fun _ h => absurd h List.not_mem_nil⟩⟩⟩⟩⟩⟩ : ∀ w ∈ ([u_lay RX1 TX1 0, u_lay RX1 TX1 1, u_lay RX1 TX1 2, u_lay RX1 TX1 3, u_lay RX1 TX1 4, u_lay RX1 TX1 5] : List Cond), w ∈ m_gw) w h
set_option maxRecDepth 20000 in
theorem mL_1 : m_clOk 1 := ⟨rfl, ml_1, tyX1_ok, nmX1, m_at 150 rfl rfl, m_at 44 rfl rfl⟩
set_option maxRecDepth 20000 in
theorem ml_2 : ∀ w ∈ wsX20, w ∈ m_gw := by
  intro w h
  have h : w ∈ ([u_lay RX2 TX2 0, u_lay RX2 TX2 1, u_lay RX2 TX2 2, u_lay RX2 TX2 3] : List Cond) := h
  exact (List.forall_mem_cons.mpr ⟨m_at 216 rfl rfl, List.forall_mem_cons.mpr ⟨m_at 218 rfl rfl, List.forall_mem_cons.mpr ⟨m_at 220 rfl rfl, List.forall_mem_cons.mpr ⟨m_at 222 rfl rfl, fun _ h => absurd h List.not_mem_nil⟩⟩⟩⟩ : ∀ w ∈ ([u_lay RX2 TX2 0, u_lay RX2 TX2 1, u_lay RX2 TX2 2, u_lay RX2 TX2 3] : List Cond), w ∈ m_gw) w h
set_option maxRecDepth 20000 in
theorem mL_2 : m_clOk 2 := ⟨rfl, ml_2, tyX2_ok, nmX2, m_at 205 rfl rfl, m_at 46 rfl rfl⟩
set_option maxRecDepth 20000 in
theorem ml_3 : ∀ w ∈ wsX30, w ∈ m_gw := by
  intro w h
  have h : w ∈ ([u_lay RX3 TX3 0, u_lay RX3 TX3 1, u_lay RX3 TX3 2, u_lay RX3 TX3 3] : List Cond) := h
  exact (List.forall_mem_cons.mpr ⟨m_at 194 rfl rfl, List.forall_mem_cons.mpr ⟨m_at 196 rfl rfl, List.forall_mem_cons.mpr ⟨m_at 198 rfl rfl, List.forall_mem_cons.mpr ⟨m_at 200 rfl rfl, fun _ h => absurd h List.not_mem_nil⟩⟩⟩⟩ : ∀ w ∈ ([u_lay RX3 TX3 0, u_lay RX3 TX3 1, u_lay RX3 TX3 2, u_lay RX3 TX3 3] : List Cond), w ∈ m_gw) w h
set_option maxRecDepth 20000 in
theorem mL_3 : m_clOk 3 := ⟨rfl, ml_3, tyX3_ok, nmX3, m_at 181 rfl rfl, m_at 45 rfl rfl⟩
set_option maxRecDepth 20000 in
theorem ml_4 : ∀ w ∈ wsX40, w ∈ m_gw := by
  intro w h
  have h : w ∈ ([u_lay RX4 TX4 0, u_lay RX4 TX4 1, u_lay RX4 TX4 2, u_lay RX4 TX4 3, u_lay RX4 TX4 4, u_lay RX4 TX4 5, u_lay RX4 TX4 6, u_lay RX4 TX4 7, u_lay RX4 TX4 8] : List Cond) := h
  exact (List.forall_mem_cons.mpr ⟨m_at 74 rfl rfl, List.forall_mem_cons.mpr ⟨m_at 76 rfl rfl, List.forall_mem_cons.mpr ⟨m_at 78 rfl rfl, List.forall_mem_cons.mpr ⟨m_at 80 rfl rfl, List.forall_mem_cons.mpr ⟨m_at 82 rfl rfl, List.forall_mem_cons.mpr ⟨m_at 84 rfl rfl, List.forall_mem_cons.mpr ⟨m_at 86 rfl rfl, List.forall_mem_cons.mpr ⟨m_at 88 rfl rfl, List.forall_mem_cons.mpr ⟨m_at 90 rfl rfl, fun _ h => absurd h List.not_mem_nil⟩⟩⟩⟩⟩⟩⟩⟩⟩ : ∀ w ∈ ([u_lay RX4 TX4 0, u_lay RX4 TX4 1, u_lay RX4 TX4 2, u_lay RX4 TX4 3, u_lay RX4 TX4 4, u_lay RX4 TX4 5, u_lay RX4 TX4 6, u_lay RX4 TX4 7, u_lay RX4 TX4 8] : List Cond), w ∈ m_gw) w h
set_option maxRecDepth 20000 in
theorem mL_4 : m_clOk 4 := ⟨rfl, ml_4, tyX4_ok, nmX4, m_at 59 rfl rfl, m_at 42 rfl rfl⟩
set_option maxRecDepth 20000 in
theorem ml_5 : ∀ w ∈ wsX50, w ∈ m_gw := by
  intro w h
  have h : w ∈ ([u_lay RX5 TX5 0, u_lay RX5 TX5 1, u_lay RX5 TX5 2, u_lay RX5 TX5 3, u_lay RX5 TX5 4, u_lay RX5 TX5 5, u_lay RX5 TX5 6, u_lay RX5 TX5 7, u_lay RX5 TX5 8, u_lay RX5 TX5 9, u_lay RX5 TX5 10, u_lay RX5 TX5 11, u_lay RX5 TX5 12, u_lay RX5 TX5 13] : List Cond) := h
  exact (List.forall_mem_cons.mpr ⟨m_at 244 rfl rfl, List.forall_mem_cons.mpr ⟨m_at 246 rfl rfl, List.forall_mem_cons.mpr ⟨m_at 248 rfl rfl, List.forall_mem_cons.mpr ⟨m_at 250 rfl rfl, List.forall_mem_cons.mpr ⟨m_at 252 rfl rfl, List.forall_mem_cons.mpr ⟨m_at 254 rfl rfl, List.forall_mem_cons.mpr ⟨m_at 256 rfl rfl, List.forall_mem_cons.mpr ⟨m_at 258 rfl rfl, List.forall_mem_cons.mpr ⟨m_at 260 rfl rfl, List.forall_mem_cons.mpr ⟨m_at 262 rfl rfl, List.forall_mem_cons.mpr ⟨m_at 264 rfl rfl, List.forall_mem_cons.mpr ⟨m_at 266 rfl rfl, List.forall_mem_cons.mpr ⟨m_at 268 rfl rfl, List.forall_mem_cons.mpr ⟨m_at 270 rfl rfl, fun _ h => absurd h List.not_mem_nil⟩⟩⟩⟩⟩⟩⟩⟩⟩⟩⟩⟩⟩⟩ : ∀ w ∈ ([u_lay RX5 TX5 0, u_lay RX5 TX5 1, u_lay RX5 TX5 2, u_lay RX5 TX5 3, u_lay RX5 TX5 4, u_lay RX5 TX5 5, u_lay RX5 TX5 6, u_lay RX5 TX5 7, u_lay RX5 TX5 8, u_lay RX5 TX5 9, u_lay RX5 TX5 10, u_lay RX5 TX5 11, u_lay RX5 TX5 12, u_lay RX5 TX5 13] : List Cond), w ∈ m_gw) w h
set_option maxRecDepth 20000 in
theorem mL_5 : m_clOk 5 := ⟨rfl, ml_5, tyX5_ok, nmX5, m_at 51 rfl rfl, m_at 41 rfl rfl⟩
set_option maxRecDepth 20000 in
theorem ml_6 : ∀ w ∈ wsX60, w ∈ m_gw := by
  intro w h
  have h : w ∈ ([u_lay RX6 TX6 0, u_lay RX6 TX6 1, u_lay RX6 TX6 2, u_lay RX6 TX6 3, u_lay RX6 TX6 4, u_lay RX6 TX6 5, u_lay RX6 TX6 6, u_lay RX6 TX6 7, u_lay RX6 TX6 8, u_lay RX6 TX6 9, u_lay RX6 TX6 10, u_lay RX6 TX6 11, u_lay RX6 TX6 12, u_lay RX6 TX6 13, u_lay RX6 TX6 14, u_lay RX6 TX6 15, u_lay RX6 TX6 16, u_lay RX6 TX6 17, u_lay RX6 TX6 18, u_lay RX6 TX6 19, u_lay RX6 TX6 20, u_lay RX6 TX6 21, u_lay RX6 TX6 22, u_lay RX6 TX6 23, u_lay RX6 TX6 24, u_lay RX6 TX6 25, u_lay RX6 TX6 26, u_lay RX6 TX6 27, u_lay RX6 TX6 28, u_lay RX6 TX6 29, u_lay RX6 TX6 30, u_lay RX6 TX6 31, u_lay RX6 TX6 32] : List Cond) := h
  exact (List.forall_mem_cons.mpr ⟨m_at 658 rfl rfl, List.forall_mem_cons.mpr ⟨m_at 660 rfl rfl, List.forall_mem_cons.mpr ⟨m_at 662 rfl rfl, List.forall_mem_cons.mpr ⟨m_at 664 rfl rfl, List.forall_mem_cons.mpr ⟨m_at 666 rfl rfl, List.forall_mem_cons.mpr ⟨m_at 668 rfl rfl, List.forall_mem_cons.mpr ⟨m_at 670 rfl rfl, List.forall_mem_cons.mpr ⟨m_at 672 rfl rfl, List.forall_mem_cons.mpr ⟨m_at 674 rfl rfl, List.forall_mem_cons.mpr ⟨m_at 676 rfl rfl, List.forall_mem_cons.mpr ⟨m_at 678 rfl rfl, List.forall_mem_cons.mpr ⟨m_at 680 rfl rfl, List.forall_mem_cons.mpr ⟨m_at 682 rfl rfl, List.forall_mem_cons.mpr ⟨m_at 684 rfl rfl, List.forall_mem_cons.mpr ⟨m_at 686 rfl rfl, List.forall_mem_cons.mpr ⟨m_at 688 rfl rfl, List.forall_mem_cons.mpr ⟨m_at 690 rfl rfl, List.forall_mem_cons.mpr ⟨m_at 692 rfl rfl, List.forall_mem_cons.mpr ⟨m_at 694 rfl rfl, List.forall_mem_cons.mpr ⟨m_at 696 rfl rfl, List.forall_mem_cons.mpr ⟨m_at 698 rfl rfl, List.forall_mem_cons.mpr ⟨m_at 700 rfl rfl, List.forall_mem_cons.mpr ⟨m_at 702 rfl rfl, List.forall_mem_cons.mpr ⟨m_at 704 rfl rfl, List.forall_mem_cons.mpr ⟨m_at 706 rfl rfl, List.forall_mem_cons.mpr ⟨m_at 708 rfl rfl, List.forall_mem_cons.mpr ⟨m_at 710 rfl rfl, List.forall_mem_cons.mpr ⟨m_at 712 rfl rfl, List.forall_mem_cons.mpr ⟨m_at 714 rfl rfl, List.forall_mem_cons.mpr ⟨m_at 716 rfl rfl, List.forall_mem_cons.mpr ⟨m_at 718 rfl rfl, List.forall_mem_cons.mpr ⟨m_at 720 rfl rfl, List.forall_mem_cons.mpr ⟨m_at 722 rfl rfl, fun _ h => absurd h List.not_mem_nil⟩⟩⟩⟩⟩⟩⟩⟩⟩⟩⟩⟩⟩⟩⟩⟩⟩⟩⟩⟩⟩⟩⟩⟩⟩⟩⟩⟩⟩⟩⟩⟩⟩ : ∀ w ∈ ([u_lay RX6 TX6 0, u_lay RX6 TX6 1, u_lay RX6 TX6 2, u_lay RX6 TX6 3, u_lay RX6 TX6 4, u_lay RX6 TX6 5, u_lay RX6 TX6 6, u_lay RX6 TX6 7, u_lay RX6 TX6 8, u_lay RX6 TX6 9, u_lay RX6 TX6 10, u_lay RX6 TX6 11, u_lay RX6 TX6 12, u_lay RX6 TX6 13, u_lay RX6 TX6 14, u_lay RX6 TX6 15, u_lay RX6 TX6 16, u_lay RX6 TX6 17, u_lay RX6 TX6 18, u_lay RX6 TX6 19, u_lay RX6 TX6 20, u_lay RX6 TX6 21, u_lay RX6 TX6 22, u_lay RX6 TX6 23, u_lay RX6 TX6 24, u_lay RX6 TX6 25, u_lay RX6 TX6 26, u_lay RX6 TX6 27, u_lay RX6 TX6 28, u_lay RX6 TX6 29, u_lay RX6 TX6 30, u_lay RX6 TX6 31, u_lay RX6 TX6 32] : List Cond), w ∈ m_gw) w h
set_option maxRecDepth 20000 in
theorem mL_6 : m_clOk 6 := ⟨rfl, ml_6, tyX6_ok, nmX6, m_at 620 rfl rfl, m_at 47 rfl rfl⟩
set_option maxRecDepth 20000 in
theorem m_cl_ok {ci : Nat} (h : ci < 7) : m_clOk ci := by
  match ci, h with
  | 0, _ => exact mL_0
  | 1, _ => exact mL_1
  | 2, _ => exact mL_2
  | 3, _ => exact mL_3
  | 4, _ => exact mL_4
  | 5, _ => exact mL_5
  | 6, _ => exact mL_6
  | ci + 7, h => exact absurd h (by omega)
set_option maxRecDepth 20000 in
theorem m_oi_ok : ∀ (o : Nat), ¬ m_oinit o = 0 → Cond.methodLink (m_ows.getD o "") (m_oinit o) objectInit ∈ m_gw := by
  intro o h
  match o, h with
  | 0, _ => exact m_at 99 rfl rfl
  | 1, _ => exact m_at 154 rfl rfl
  | 2, _ => exact m_at 209 rfl rfl
  | 3, _ => exact m_at 185 rfl rfl
  | 4, _ => exact m_at 63 rfl rfl
  | 5, _ => exact m_at 55 rfl rfl
  | 6, _ => exact m_at 624 rfl rfl
  | 7, h => exact absurd rfl h
  | 8, h => exact absurd rfl h
  | 9, h => exact absurd rfl h
  | o + 10, h => exact absurd (by simp [m_oinit]) h
set_option maxRecDepth 20000 in
theorem m_oi_in : Cond.instanceMethod objectInit ∈ m_gw := m_at 56 rfl rfl
set_option maxRecDepth 20000 in
theorem m_oi_code : Cond.code objectInit ⟨#[0xb1]⟩ 1 none ∈ m_gw := m_at 57 rfl rfl
set_option maxRecDepth 20000 in
theorem m_max_ok : Cond.static Lib.Math.max.name ∈ m_gw ∧ Cond.initialized "java/lang/Math" ∈ m_gw ∧ Cond.code Lib.Math.max.name Lib.Math.max.code 2 (some .int) ∈ m_gw := ⟨m_at 523 rfl rfl, m_at 48 rfl rfl, m_at 524 rfl rfl⟩
set_option maxRecDepth 20000 in
theorem m_min_ok : Cond.static Lib.Math.min.name ∈ m_gw ∧ Cond.initialized "java/lang/Math" ∈ m_gw ∧ Cond.code Lib.Math.min.name Lib.Math.min.code 2 (some .int) ∈ m_gw := ⟨m_at 302 rfl rfl, m_at 48 rfl rfl, m_at 303 rfl rfl⟩
set_option maxRecDepth 20000 in
theorem m_ac_boolean : Cond.arrayClass .boolean ∈ m_gw := m_at 203 rfl rfl
set_option maxRecDepth 20000 in
theorem m_ac_char : Cond.arrayClass .char ∈ m_gw := m_at 93 rfl rfl
set_option maxRecDepth 20000 in
theorem m_ac_int : Cond.arrayClass .int ∈ m_gw := m_at 148 rfl rfl
set_option maxRecDepth 20000 in
theorem m_ac_long : Cond.arrayClass .long ∈ m_gw := m_at 225 rfl rfl
set_option maxRecDepth 20000 in
theorem m_nw_ok : ∀ w ∈ m_nw, w ∈ lw_tbl := List.forall_mem_cons.mpr ⟨List.mem_of_getElem? (i := 60) rfl, List.forall_mem_cons.mpr ⟨List.mem_of_getElem? (i := 151) rfl, List.forall_mem_cons.mpr ⟨List.mem_of_getElem? (i := 182) rfl, List.forall_mem_cons.mpr ⟨List.mem_of_getElem? (i := 206) rfl, List.forall_mem_cons.mpr ⟨List.mem_of_getElem? (i := 211) rfl, List.forall_mem_cons.mpr ⟨List.mem_of_getElem? (i := 423) rfl, fun _ h => absurd h List.not_mem_nil⟩⟩⟩⟩⟩⟩
set_option maxRecDepth 20000 in
theorem m_ao_ok : Cond.arrayOver (.object "MillSails$Play") ∈ lw_tbl := List.mem_of_getElem? (i := 179) rfl
end
section
/-! an interpreter of the system's bytecode over abstract worlds: a cell is known by a number (0: the script; 1, 2 ..: in the order of making), a world is (kind and length of each cell, its whole numbers, its longs, its references) -/
abbrev mW : Type := List (Nat × Nat) × (Nat → Nat → Int32) × (Nat → Nat → Int64) × (Nat → Nat → Option Nat)
abbrev mLs : Type := List (Option Value)
abbrev mC : Type := Nat × mLs × List Value × mW
abbrev mS : Type := Nat × (Nat → Int32)
abbrev mR : Type := Option (Option Bool × mC)
def m_up {α : Type} (f : Nat → Nat → α) (a k : Nat) (v : α) : Nat → Nat → α := fun x y => if x = a then (if y = k then v else f x y) else f x y
def m_z {α : Type} (f : Nat → Nat → α) (a : Nat) (v : α) : Nat → Nat → α := fun x y => if x = a then v else f x y
def m_sI (w : mW) (a k : Nat) (v : Int32) : mW := (w.1, m_up w.2.1 a k v, w.2.2.1, w.2.2.2)
def m_sL (w : mW) (a k : Nat) (v : Int64) : mW := (w.1, w.2.1, m_up w.2.2.1 a k v, w.2.2.2)
def m_sR (w : mW) (a k : Nat) (v : Option Nat) : mW := (w.1, w.2.1, w.2.2.1, m_up w.2.2.2 a k v)
def m_new (w : mW) (q : Nat × Nat) : mW := (w.1 ++ [q], m_z w.2.1 (w.1.length + 1) 0, m_z w.2.2.1 (w.1.length + 1) 0, m_z w.2.2.2 (w.1.length + 1) none)
def m_sh (w : mW) (a : Nat) : Nat × Nat := match a with
  | 0 => (99, 0)
  | i + 1 => w.1.getD i (99, 0)
def m_ld (ls : mLs) (k : Nat) : Option Value := match ls[k]? with
  | some (some v) => some v
  | _ => none
def m_sto (mi : Nat) (ls : mLs) (k : Nat) (v : Value) : Option mLs :=
  match (m_lg mi).any (fun j => Nat.beq (j + 1) k) || !(Nat.blt k (m_mxl mi)) with
  | true => none
  | false => some (ls.set k (some v))
def m_sto2 (mi : Nat) (ls : mLs) (k : Nat) (v : Value) : Option mLs :=
  match (m_lg mi).any (fun j => Nat.beq (j + 1) k || Nat.beq j (k + 1)) || !((m_lg mi).any (fun j => Nat.beq j k)) || !(Nat.blt (k + 1) (m_mxl mi)) with
  | true => none
  | false => some ((ls.set k (some v)).set (k + 1) none)
def m_ok (j : Int32) (n : Nat) : Bool := decide (¬ (j < 0 ∨ n ≤ j.toNatClampNeg))
def m_bl (x : Int32) : Bool := decide (x = 0 ∨ x = 1)
def m_isI (mi : Nat) : Bool := decide ((m_y mi).name = "<init>")
def m_cs (st : List Value) : Nat := (st.map fun v => v.category).sum
-- what lies on the stack
def m_i1 {α : Type} (st : List Value) (f : Int32 → List Value → Option α) : Option α := match st with
  | .int x :: r => f x r
  | _ => none
def m_i2 {α : Type} (st : List Value) (f : Int32 → Int32 → List Value → Option α) : Option α := match st with
  | .int y :: .int x :: r => f x y r
  | _ => none
def m_l1 {α : Type} (st : List Value) (f : Int64 → List Value → Option α) : Option α := match st with
  | .long x :: r => f x r
  | _ => none
def m_l2 {α : Type} (st : List Value) (f : Int64 → Int64 → List Value → Option α) : Option α := match st with
  | .long y :: .long x :: r => f x y r
  | _ => none
def m_li {α : Type} (st : List Value) (f : Int64 → Int32 → List Value → Option α) : Option α := match st with
  | .int y :: .long x :: r => f x y r
  | _ => none
def m_a1 {α : Type} (st : List Value) (f : Nat → List Value → Option α) : Option α := match st with
  | .ref a :: r => f a r
  | _ => none
def m_ai {α : Type} (st : List Value) (f : Nat → Int32 → List Value → Option α) : Option α := match st with
  | .int j :: .ref a :: r => f a j r
  | _ => none
def m_aii {α : Type} (st : List Value) (f : Nat → Int32 → Int32 → List Value → Option α) : Option α := match st with
  | .int x :: .int j :: .ref a :: r => f a j x r
  | _ => none
def m_ail {α : Type} (st : List Value) (f : Nat → Int32 → Int64 → List Value → Option α) : Option α := match st with
  | .long x :: .int j :: .ref a :: r => f a j x r
  | _ => none
def m_aia {α : Type} (st : List Value) (f : Nat → Int32 → Nat → List Value → Option α) : Option α := match st with
  | .ref v :: .int j :: .ref a :: r => f a j v r
  | _ => none
-- branches
def m_c0 (c : ClassFile.Cond) (x : Int32) (t e : Nat) : Nat := match c with
  | .eq => if x = 0 then t else e
  | .ne => if x = 0 then e else t
  | .lt => if x < 0 then t else e
  | .ge => if 0 ≤ x then t else e
  | .gt => if 0 < x then t else e
  | .le => if x ≤ 0 then t else e
def m_c2 (c : ClassFile.Cond) (x y : Int32) (t e : Nat) : Nat := match c with
  | .eq => if x = y then t else e
  | .ne => if x = y then e else t
  | .lt => if x < y then t else e
  | .ge => if y ≤ x then t else e
  | .gt => if y < x then t else e
  | .le => if x ≤ y then t else e
def m_tgt (pc : Nat) (off : Int) : Option Nat := match (pc : Int) + off with
  | .ofNat n => some n
  | .negSucc _ => none
def m_tsw (pc : Nat) (x : Int32) (d : Int) : Int → List Int → Nat
  | _, [] => ((pc : Int) + d).toNat
  | lo, o :: os => if x = Int32.ofInt lo then ((pc : Int) + o).toNat else m_tsw pc x d (lo + 1) os
def m_lsw (pc : Nat) (x : Int32) (d : Int) : List (Int × Int) → Nat
  | [] => ((pc : Int) + d).toNat
  | (k, o) :: os => if x = Int32.ofInt k then ((pc : Int) + o).toNat else m_lsw pc x d os
def m_offs (pc : Nat) (os : List Int) : Bool := os.all (fun o => decide (0 ≤ (pc : Int) + o))
def m_fv (w : mW) (a j t : Nat) : Value := match t with
  | 1 => .long (w.2.2.1 a j)
  | 2 => va_rf (w.2.2.2 a j)
  | _ => .int (w.2.1 a j)
def m_val (ls : mLs) (k n pc : Nat) (st : List Value) (w : mW) (t : Nat) : mR := match m_ld ls k, t with
  | some (.int x), 0 => some (none, pc + n, ls, .int x :: st, w)
  | some (.long x), 1 => some (none, pc + n, ls, .long x :: st, w)
  | some (.ref x), 2 => some (none, pc + n, ls, .ref x :: st, w)
  | _, _ => none
def m_put (mi : Nat) (ls : mLs) (k n pc : Nat) (v : Value) (r : List Value) (w : mW) : mR := match m_sto mi ls k v with
  | some ls' => some (none, pc + n, ls', r, w)
  | none => none
def m_put2 (mi : Nat) (ls : mLs) (k n pc : Nat) (v : Value) (r : List Value) (w : mW) : mR := match m_sto2 mi ls k v with
  | some ls' => some (none, pc + n, ls', r, w)
  | none => none
def m_fnd {α : Type} : List (Nat × α) → Nat → Option α
  | [], _ => none
  | (i, x) :: l, k => match Nat.beq i k with
    | true => some x
    | false => m_fnd l k
def m_getf (mi k pc : Nat) (ls : mLs) (st : List Value) (w : mW) : mR := m_a1 st fun a r => match m_fnd (m_flds (m_owi mi)) k with
  | some (ci, j, t) => match Nat.beq (m_sh w a).1 ci with
    | true => some (none, pc + 3, ls, m_fv w a j t :: r, w)
    | false => none
  | none => none
def m_putf (mi k pc : Nat) (ls : mLs) (st : List Value) (w : mW) : mR := match st with
  | v :: .ref a :: r => match m_fnd (m_flds (m_owi mi)) k with
    | some (ci, j, t) => match Nat.beq (m_sh w a).1 ci && (!((m_T ci j).2.2.2) || (m_isI mi && Nat.beq ci (m_owi mi))) with
      | true => match v, t with
        | .int x, 0 => some (none, pc + 3, ls, r, m_sI w a j x)
        | .int x, 3 => some (some (m_bl x), pc + 3, ls, r, m_sI w a j x)
        | .long x, 1 => some (none, pc + 3, ls, r, m_sL w a j x)
        | .ref b, 2 => some (none, pc + 3, ls, r, m_sR w a j (some b))
        | _, _ => none
      | false => none
    | none => none
  | _ => none
def m_kd (w : mW) (a k : Nat) {α : Type} (x : Option α) : Option α := match Nat.beq (m_sh w a).1 k with
  | true => x
  | false => none
def m_alen (w : mW) (t : ArrayType) (n : Int32) (pc : Nat) (ls : mLs) (r : List Value) : mR := match t with
  | .char => if n < 0 ∨ 65536 < n.toNatClampNeg then none else some (none, pc + 2, ls, .ref (w.1.length + 1) :: r, m_new w (7, n.toNatClampNeg))
  | .int => if n < 0 ∨ 65536 < n.toNatClampNeg then none else some (none, pc + 2, ls, .ref (w.1.length + 1) :: r, m_new w (8, n.toNatClampNeg))
  | .long => if n < 0 ∨ 65536 < n.toNatClampNeg then none else some (none, pc + 2, ls, .ref (w.1.length + 1) :: r, m_new w (9, n.toNatClampNeg))
  | .boolean => if n < 0 ∨ 65536 < n.toNatClampNeg then none else some (none, pc + 2, ls, .ref (w.1.length + 1) :: r, m_new w (10, n.toNatClampNeg))
  | _ => none
def m_exe (S : mS) (mi : Nat) (i : Instr) (pc : Nat) (ls : mLs) (st : List Value) (w : mW) : mR := match i with
  | .iconst n => some (none, pc + 1, ls, .int (Int32.ofInt n) :: st, w)
  | .bipush n => some (none, pc + 2, ls, .int ((Int8.ofInt n).toInt32) :: st, w)
  | .sipush n => some (none, pc + 3, ls, .int ((Int16.ofInt n).toInt32) :: st, w)
  | .lconst n => some (none, pc + 1, ls, .long (Int64.ofNat (n : Nat)) :: st, w)
  | .ldc k => match m_fnd (m_csts (m_owi mi)) k with
    | some x => some (none, pc + 2, ls, .int x :: st, w)
    | none => none
  | .ldc2_w k => match m_fnd (m_lcss (m_owi mi)) k with
    | some x => some (none, pc + 3, ls, .long x :: st, w)
    | none => none
  | .iload_n k => m_val ls k 1 pc st w 0
  | .iload k => m_val ls k 2 pc st w 0
  | .lload_n k => m_val ls k 1 pc st w 1
  | .lload k => m_val ls k 2 pc st w 1
  | .aload_n k => m_val ls k 1 pc st w 2
  | .istore_n k => m_i1 st fun x r => m_put mi ls k 1 pc (.int x) r w
  | .istore k => m_i1 st fun x r => m_put mi ls k 2 pc (.int x) r w
  | .lstore_n k => m_l1 st fun x r => m_put2 mi ls k 1 pc (.long x) r w
  | .lstore k => m_l1 st fun x r => m_put2 mi ls k 2 pc (.long x) r w
  | .astore_n k => m_a1 st fun x r => m_put mi ls k 1 pc (.ref x) r w
  | .iinc k n => match m_ld ls k with
    | some (.int x) => m_put mi ls k 3 pc (.int (x + Int32.ofInt n)) st w
    | _ => none
  | .iadd => m_i2 st fun x y r => some (none, pc + 1, ls, .int (x + y) :: r, w)
  | .isub => m_i2 st fun x y r => some (none, pc + 1, ls, .int (x - y) :: r, w)
  | .imul => m_i2 st fun x y r => some (none, pc + 1, ls, .int (x * y) :: r, w)
  | .idiv => m_i2 st fun x y r => some (some (decide (¬ y = 0)), pc + 1, ls, .int (x / y) :: r, w)
  | .irem => m_i2 st fun x y r => some (some (decide (¬ y = 0)), pc + 1, ls, .int (x - x / y * y) :: r, w)
  | .iand => m_i2 st fun x y r => some (none, pc + 1, ls, .int (x &&& y) :: r, w)
  | .ior => m_i2 st fun x y r => some (none, pc + 1, ls, .int (x ||| y) :: r, w)
  | .ishl => m_i2 st fun x y r => some (none, pc + 1, ls, .int (x <<< (y &&& 31)) :: r, w)
  | .i2c => m_i1 st fun x r => some (none, pc + 1, ls, .int (x.toUInt32 % 65536).toInt32 :: r, w)
  | .l2i => m_l1 st fun x r => some (none, pc + 1, ls, .int x.toInt32 :: r, w)
  | .ladd => m_l2 st fun x y r => some (none, pc + 1, ls, .long (x + y) :: r, w)
  | .lsub => m_l2 st fun x y r => some (none, pc + 1, ls, .long (x - y) :: r, w)
  | .land => m_l2 st fun x y r => some (none, pc + 1, ls, .long (x &&& y) :: r, w)
  | .lor => m_l2 st fun x y r => some (none, pc + 1, ls, .long (x ||| y) :: r, w)
  | .lxor => m_l2 st fun x y r => some (none, pc + 1, ls, .long (x ^^^ y) :: r, w)
  | .lcmp => m_l2 st fun x y r => some (none, pc + 1, ls, .int (lg_cmp x y) :: r, w)
  | .lshl => m_li st fun x y r => some (none, pc + 1, ls, .long (x <<< (y.toInt64 &&& 63)) :: r, w)
  | .lushr => m_li st fun x y r => some (none, pc + 1, ls, .long (x.toUInt64 >>> (y.toInt64.toUInt64 &&& Int64.toUInt64 63)).toInt64 :: r, w)
  | .dup => match st with
    | v :: r => match Nat.beq v.category 1 with
      | true => some (none, pc + 1, ls, v :: v :: r, w)
      | false => none
    | _ => none
  | .dup2 => match st with
    | v :: u :: r => match Nat.beq v.category 1 && Nat.beq u.category 1 with
      | true => some (none, pc + 1, ls, v :: u :: v :: u :: r, w)
      | false => none
    | _ => none
  | .ifCond c off => m_i1 st fun x r => match m_tgt pc off with
    | some t => some (none, m_c0 c x t (pc + 3), ls, r, w)
    | none => none
  | .if_icmp c off => m_i2 st fun x y r => match m_tgt pc off with
    | some t => some (none, m_c2 c x y t (pc + 3), ls, r, w)
    | none => none
  | .goto off => match m_tgt pc off with
    | some t => some (none, t, ls, st, w)
    | none => none
  | .tableswitch d lo hi offs => m_i1 st fun x r => match m_offs pc (d :: offs.toList) && decide (-2147483648 ≤ lo) && decide (hi ≤ 2147483647) && decide (hi = lo + (offs.toList.length : Int) - 1) with
    | true => some (none, m_tsw pc x d lo offs.toList, ls, r, w)
    | false => none
  | .lookupswitch d ps => m_i1 st fun x r => match m_offs pc (d :: ps.toList.map Prod.snd) && ps.toList.all (fun q => decide (-2147483648 ≤ q.1 ∧ q.1 ≤ 2147483647)) && (ps.toList.zip (ps.toList.drop 1)).all (fun (a, next) => a.1 < next.1) with
    | true => some (none, m_lsw pc x d ps.toList, ls, r, w)
    | false => none
  | .getfield k => m_getf mi k pc ls st w
  | .putfield k => m_putf mi k pc ls st w
  | .arraylength => m_a1 st fun a r => match a with
    | 0 => some (none, pc + 1, ls, .int (Int32.ofNat S.1) :: r, w)
    | _ => none
  | .iaload => m_ai st fun a j r => match a with
    | 0 => some (some (m_ok j S.1), pc + 1, ls, .int (S.2 j.toNatClampNeg) :: r, w)
    | a + 1 => m_kd w (a + 1) 8 (some (some (m_ok j (m_sh w (a + 1)).2), pc + 1, ls, .int (w.2.1 (a + 1) j.toNatClampNeg) :: r, w))
  | .caload => m_ai st fun a j r => m_kd w a 7 (some (some (m_ok j (m_sh w a).2), pc + 1, ls, .int (w.2.1 a j.toNatClampNeg) :: r, w))
  | .baload => m_ai st fun a j r => m_kd w a 10 (some (some (m_ok j (m_sh w a).2), pc + 1, ls, .int (w.2.1 a j.toNatClampNeg) :: r, w))
  | .laload => m_ai st fun a j r => m_kd w a 9 (some (some (m_ok j (m_sh w a).2), pc + 1, ls, .long (w.2.2.1 a j.toNatClampNeg) :: r, w))
  | .aaload => m_ai st fun a j r => m_kd w a 11 (some (some (m_ok j (m_sh w a).2), pc + 1, ls, va_rf (w.2.2.2 a j.toNatClampNeg) :: r, w))
  | .iastore => m_aii st fun a j x r => m_kd w a 8 (some (some (m_ok j (m_sh w a).2), pc + 1, ls, r, m_sI w a j.toNatClampNeg x))
  | .castore => m_aii st fun a j x r => m_kd w a 7 (some (some (m_ok j (m_sh w a).2), pc + 1, ls, r, m_sI w a j.toNatClampNeg (vp_nar .char x)))
  | .bastore => m_aii st fun a j x r => m_kd w a 10 (some (some (m_ok j (m_sh w a).2), pc + 1, ls, r, m_sI w a j.toNatClampNeg (vp_nar .boolean x)))
  | .lastore => m_ail st fun a j x r => m_kd w a 9 (some (some (m_ok j (m_sh w a).2), pc + 1, ls, r, m_sL w a j.toNatClampNeg x))
  | .aastore => m_aia st fun a j v r => m_kd w a 11 (m_kd w v 1 (some (some (m_ok j (m_sh w a).2), pc + 1, ls, r, m_sR w a j.toNatClampNeg (some v))))
  | .new k => match m_fnd (m_clss (m_owi mi)) k with
    | some ci => some (none, pc + 3, ls, .ref (w.1.length + 1) :: st, m_new w (ci, m_N ci))
    | none => none
  | .newarray t => m_i1 st fun n r => m_alen w t n pc ls r
  | .anewarray k => m_i1 st fun n r => match m_fnd (m_clss (m_owi mi)) k with
    | some 1 => if n < 0 ∨ 65536 < n.toNatClampNeg then none else some (none, pc + 3, ls, .ref (w.1.length + 1) :: r, m_new w (11, n.toNatClampNeg))
    | _ => none
  | .invokespecial k => match Nat.beq k (m_oinit (m_owi mi)) && Nat.blt 0 k && Nat.blt 0 (m_rF mi) with
    | true => m_a1 st fun _ r => match Nat.ble (m_cs r + 12) (m_rL mi) with
      | true => some (none, pc + 3, ls, r, w)
      | false => none
    | false => none
  | .invokestatic k => match m_fnd (m_calls (m_owi mi)) k with
    | some (_, 5, _) => m_i2 st fun x y r => match Nat.blt 0 (m_rF mi) && Nat.ble (m_cs r + 13) (m_rL mi) with
      | true => some (none, pc + 3, ls, .int (if x < y then y else x) :: r, w)
      | false => none
    | some (_, 6, _) => m_i2 st fun x y r => match Nat.blt 0 (m_rF mi) && Nat.ble (m_cs r + 13) (m_rL mi) with
      | true => some (none, pc + 3, ls, .int (if y < x then y else x) :: r, w)
      | false => none
    | _ => none
  | _ => none
/-- how long an instruction is (0: any) -/
def m_len (i : Instr) : Nat := match i with
  | .bipush _ | .ldc _ | .iload _ | .lload _ | .istore _ | .lstore _ | .newarray _ => 2
  | .sipush _ | .ldc2_w _ | .iinc _ _ | .ifCond _ _ | .if_icmp _ _ | .goto _ | .getfield _ | .putfield _ | .new _ | .anewarray _ | .invokespecial _ | .invokestatic _ | .invokevirtual _ => 3
  | .tableswitch _ _ _ _ | .lookupswitch _ _ => 0
  | _ => 1
def m_lenOk (i : Instr) (len : Nat) : Bool := Nat.beq (m_len i) 0 || Nat.beq (m_len i) len
/-- a return: what is answered -/
def m_ret (mi : Nat) (i : Instr) (st : List Value) : Option (Option Bool × Option Value) := match i, st with
  | .ireturn, [.int x] => match m_rty mi with
    | some .int => some (none, some (.int x))
    | some .boolean => some (some (m_bl x), some (.int x))
    | _ => none
  | .lreturn, [.long x] => match m_rty mi with
    | some .long => some (none, some (.long x))
    | _ => none
  | .return_, [] => match m_rty mi with
    | none => some (none, none)
    | _ => none
  | _, _ => none
def m_lgc (lg : List Nat) : Nat → List Value → Bool
  | _, [] => true
  | i, v :: vs => match Nat.beq v.category 2 with
    | true => lg.any (fun j => Nat.beq j i) && m_lgc lg (i + 2) vs
    | false => m_lgc lg (i + 1) vs
def m_nar (k n : Nat) : Nat := match k with
  | 1 => n
  | 4 => n
  | _ => n + 1
/-- a call: who, with what, what lies below; n arguments, k: 0 and 2, 3 have a receiver too -/
def m_cal1 (mi : Nat) (st : List Value) (w : mW) (q : Nat × Nat × Nat × MethodName) (ks : List Nat) : Option (Nat × List Value × List Value) :=
  match ks.any (fun k => Nat.beq k q.2.1) with
  | false => none
  | true =>
    let n := m_nar q.2.1 q.2.2.1
    let av := (st.take n).reverse
    let r := st.drop n
    match Nat.beq av.length n && Nat.ble (m_cs r) 8 && Nat.blt (m_rF q.1) (m_rF mi) && Nat.ble (8 + (m_mxl q.1 + 11) + m_rL q.1) (m_rL mi) && Nat.ble (m_cs av) (m_mxl q.1) && m_lgc (m_lg q.1) 0 av with
    | false => none
    | true => match q.2.1 with
      | 1 => some (q.1, av, r)
      | 4 => some (q.1, av, r)
      | _ => match av with
        | .ref a :: _ => match Nat.blt (m_owi q.1) 7 with
          | true => m_kd w a (m_owi q.1) (some (q.1, av, r))
          | false => none
        | _ => none
def m_cal (mi : Nat) (i : Instr) (st : List Value) (w : mW) : Option (Nat × List Value × List Value) := match i with
  | .invokevirtual k => match m_fnd (m_calls (m_owi mi)) k with
    | some q => m_cal1 mi st w q [0]
    | none => none
  | .invokestatic k => match m_fnd (m_calls (m_owi mi)) k with
    | some q => m_cal1 mi st w q [1, 4]
    | none => none
  | .invokespecial k => match m_fnd (m_calls (m_owi mi)) k with
    | some q => m_cal1 mi st w q [2, 3]
    | none => none
  | _ => none
def m_slots (vs : List Value) : mLs := vs.flatMap fun v => match Nat.beq v.category 2 with
  | true => [some v, none]
  | false => [some v]
def m_ent (mi : Nat) (vs : List Value) : mLs := m_slots vs ++ List.replicate (m_mxl mi - (m_slots vs).length) none
def m_run (S : mS) : Nat → Nat → Nat → mLs → List Value → mW → Option (Option Value × mW)
  | 0, _, _, _, _, _ => none
  | n + 1, mi, pc, ls, st, w => match decode (m_cod mi) pc with
    | .error _ => none
    | .ok (i, len) => match m_lenOk i len with
      | false => none
      | true => match m_ret mi i st with
        | some (g, v) => match g with
          | some false => none
          | _ => some (v, w)
        | none => match m_cal mi i st w with
          | some (m', av, r) => match m_run S n m' 0 (m_ent m' av) [] w with
            | some (v, w') => m_run S n mi (pc + 3) ls (v.toList ++ r) w'
            | none => none
          | none => match m_exe S mi i pc ls st w with
            | some (g, pc', ls', st', w') => match g with
              | some false => none
              | _ => m_run S n mi pc' ls' st' w'
            | none => none
end
section
/-! abstract worlds and the machine's heap -/
def m_ad (B b : Nat) (i : Nat) : Nat := match i with
  | 0 => b
  | i + 1 => B + i
def m_cv (B b : Nat) (v : Value) : Value := match v with
  | .ref a => .ref (m_ad B b a)
  | v => v
def m_ce (B b : Nat) (cA : Nat → ClassId) (w : mW) (q : Nat × Nat) (a : Nat) : va_E :=
  if q.1 < 7 then .inr (q.1, (List.range (m_N q.1)).map fun j => m_cv B b (m_fv w a j (m_tco (m_ty q.1 j))))
  else .inl (cA q.1, (q.2, if q.1 = 9 then .inr (.inl (w.2.2.1 a)) else if q.1 = 11 then .inr (.inr (.inr (.inr fun j => (w.2.2.2 a j).map (m_ad B b)))) else .inl (w.2.1 a)))
def m_wl (B b : Nat) (cA : Nat → ClassId) (w : mW) : va_W := w.1.mapIdx (fun i q => (B + i, m_ce B b cA w q (i + 1)))
def m_tyl (cA : Nat → ClassId) : List (ClassId × FieldType) := [(cA 7, .char), (cA 8, .int), (cA 9, .long), (cA 10, .boolean), (cA 11, .object RX1)]
def m_Wo (B b : Nat) (cA : Nat → ClassId) (D : va_G) (w : mW) (H : Heap) : Prop := H.size = B + w.1.length ∧ va_P D vwCl (m_wl B b cA w) H
def m_Sx (S : mS) (B b : Nat) (cA : Nat → ClassId) (D : va_G) (s : State) : Prop := va_K D vwCl (m_tyl cA) s ∧ (∀ w ∈ m_nw, va_Nw w s) ∧ va_AO RX1 s ∧ va_X b S.1 S.2 s s.heap ∧ b < B ∧ B ≤ s.heap.size
def m_tl (B b : Nat) (ls : mLs) : List (Nat × Value) := (List.range ls.length).filterMap fun j => (m_ld ls j).map fun v => (j, m_cv B b v)
def m_szs (w : mW) : Nat := (w.1.map fun q => if q.1 < 7 then m_N q.1 else q.2).sum
theorem m_cv_cat (B b : Nat) (v : Value) : (m_cv B b v).category = v.category := by cases v <;> rfl
theorem m_cv_rf (B b : Nat) (r : Option Nat) : m_cv B b (va_rf r) = va_rf (r.map (m_ad B b)) := by cases r <;> rfl
theorem m_cs_cv (B b : Nat) (st : List Value) : ((st.map (m_cv B b)).map fun v => v.category).sum = m_cs st := by
  unfold m_cs
  rw [List.map_map]
  congr 1
  exact List.map_congr_left fun v _ => m_cv_cat B b v
theorem m_wl_get {B b : Nat} {cA : Nat → ClassId} {w : mW} {i : Nat} {q : Nat × Nat} (h : w.1[i]? = some q) : (m_wl B b cA w)[i]? = some (B + i, m_ce B b cA w q (i + 1)) := by
  unfold m_wl
  rw [List.getElem?_mapIdx, h]
  rfl
theorem m_wl_some {B b : Nat} {cA : Nat → ClassId} {w : mW} {i : Nat} {x : Nat × va_E} (h : (m_wl B b cA w)[i]? = some x) : ∃ q, w.1[i]? = some q ∧ x = (B + i, m_ce B b cA w q (i + 1)) := by
  unfold m_wl at h
  rw [List.getElem?_mapIdx] at h
  cases hq : w.1[i]? with
  | none => rw [hq] at h; cases h
  | some q => rw [hq] at h; exact ⟨q, rfl, (Option.some.inj h).symm⟩
theorem m_D {B b : Nat} {cA : Nat → ClassId} {w : mW} : va_D (fun q => B ≤ q) (m_wl B b cA w) := by
  refine ⟨fun i j x y hi hj h => ?_, fun k x hk => ?_⟩
  · obtain ⟨q, -, rfl⟩ := m_wl_some hi
    obtain ⟨q', -, rfl⟩ := m_wl_some hj
    have h : B + i = B + j := h
    omega
  · obtain ⟨q, -, rfl⟩ := m_wl_some hk
    exact Nat.le_add_right _ _
theorem m_sh_get {w : mW} {a k : Nat} (h : Nat.beq (m_sh w a).1 k = true) (hk : k < 99) : ∃ i n, a = i + 1 ∧ w.1[i]? = some (k, n) ∧ (m_sh w a).2 = n := by
  have h := Nat.eq_of_beq_eq_true h
  cases a with
  | zero => have h : 99 = k := h; omega
  | succ i =>
    simp only [m_sh] at h ⊢
    rw [List.getD_eq_getElem?_getD] at h ⊢
    cases hq : w.1[i]? with
    | none => rw [hq] at h; have h : 99 = k := h; omega
    | some q =>
      obtain ⟨x, n⟩ := q
      rw [hq] at h
      have h : x = k := h
      subst h
      exact ⟨i, n, rfl, hq, rfl⟩
theorem m_ce_obj {B b : Nat} {cA : Nat → ClassId} {w : mW} {k n a : Nat} (h : k < 7) : m_ce B b cA w (k, n) a = .inr (k, (List.range (m_N k)).map fun j => m_cv B b (m_fv w a j (m_tco (m_ty k j)))) := by
  simp [m_ce, h]
theorem m_ce_c {B b : Nat} {cA : Nat → ClassId} {w : mW} {n a : Nat} : m_ce B b cA w (7, n) a = .inl (cA 7, n, .inl (w.2.1 a)) := by simp [m_ce]
theorem m_ce_i {B b : Nat} {cA : Nat → ClassId} {w : mW} {n a : Nat} : m_ce B b cA w (8, n) a = .inl (cA 8, n, .inl (w.2.1 a)) := by simp [m_ce]
theorem m_ce_l {B b : Nat} {cA : Nat → ClassId} {w : mW} {n a : Nat} : m_ce B b cA w (9, n) a = .inl (cA 9, n, .inr (.inl (w.2.2.1 a))) := by simp [m_ce]
theorem m_ce_z {B b : Nat} {cA : Nat → ClassId} {w : mW} {n a : Nat} : m_ce B b cA w (10, n) a = .inl (cA 10, n, .inl (w.2.1 a)) := by simp [m_ce]
theorem m_ce_q {B b : Nat} {cA : Nat → ClassId} {w : mW} {n a : Nat} : m_ce B b cA w (11, n) a = .inl (cA 11, n, .inr (.inr (.inr (.inr fun j => (w.2.2.2 a j).map (m_ad B b))))) := by simp [m_ce]
theorem m_ce_congr {B b : Nat} {cA : Nat → ClassId} {w w' : mW} {q : Nat × Nat} {a : Nat} (h : w'.2.1 a = w.2.1 a ∧ w'.2.2.1 a = w.2.2.1 a ∧ w'.2.2.2 a = w.2.2.2 a) : m_ce B b cA w' q a = m_ce B b cA w q a := by
  obtain ⟨h1, h2, h3⟩ := h
  unfold m_ce m_fv
  rw [h1, h2, h3]
theorem m_Wo_set {B b : Nat} {cA : Nat → ClassId} {D : va_G} {w w' : mW} {H H1 : Heap} {i : Nat} {q : Nat × Nat} (hW : m_Wo B b cA D w H) (hq : w.1[i]? = some q) (hw1 : w'.1 = w.1)
    (hsame : ∀ a, a ≠ i + 1 → w'.2.1 a = w.2.1 a ∧ w'.2.2.1 a = w.2.2.1 a ∧ w'.2.2.2 a = w.2.2.2 a) (he : va_at D vwCl (B + i, m_ce B b cA w' q (i + 1)) H1) (z : H1.size = H.size) (oq : ∀ x : Nat, x ≠ B + i → H1[x]? = H[x]?) : m_Wo B b cA D w' H1 := by
  refine ⟨by rw [z, hw1]; exact hW.1, fun k x hk => ?_⟩
  obtain ⟨q', h1, rfl⟩ := m_wl_some hk
  by_cases hki : k = i
  · subst hki
    rw [hw1, hq] at h1
    cases h1
    exact he
  · rw [hw1] at h1
    rw [m_ce_congr (hsame (k + 1) (by omega))]
    exact (hW.2 k _ (m_wl_get h1)).kept (oq _ (by show B + k ≠ B + i; omega))
theorem m_up_ne {α : Type} {f : Nat → Nat → α} {a k x : Nat} {v : α} (h : x ≠ a) : m_up f a k v x = f x := by
  funext y
  simp [m_up, h]
theorem m_up_eq {α : Type} {f : Nat → Nat → α} {a k : Nat} {v : α} (y : Nat) : m_up f a k v a y = if y = k then v else f a y := by simp [m_up]
theorem m_z_ne {α : Type} {f : Nat → Nat → α} {a x : Nat} {v : α} (h : x ≠ a) : m_z f a v x = f x := by
  funext y
  simp [m_z, h]
theorem m_z_eq {α : Type} {f : Nat → Nat → α} {a : Nat} {v : α} (y : Nat) : m_z f a v a y = v := by simp [m_z]
theorem m_Wo_new {B b : Nat} {cA : Nat → ClassId} {D : va_G} {w : mW} {H H1 : Heap} {q : Nat × Nat} (hW : m_Wo B b cA D w H) (he : va_at D vwCl (H.size, m_ce B b cA (m_new w q) q (w.1.length + 1)) H1) (z : H1.size = H.size + 1) (oq : ∀ x : Nat, x < H.size → H1[x]? = H[x]?) : m_Wo B b cA D (m_new w q) H1 := by
  refine ⟨by rw [z, hW.1]; simp [m_new]; omega, fun k x hk => ?_⟩
  obtain ⟨q', h1, rfl⟩ := m_wl_some hk
  by_cases hl : k < w.1.length
  · have h2 : w.1[k]? = some q' := by rw [← h1]; exact (List.getElem?_append_left hl).symm
    rw [m_ce_congr (w := w) ⟨m_z_ne (by omega), m_z_ne (by omega), m_z_ne (by omega)⟩]
    have h3 := hW.2 k _ (m_wl_get h2)
    exact h3.kept (oq _ h3.lt)
  · have h2 : (w.1 ++ [q])[k]? = some q' := h1
    rw [List.getElem?_append_right (by omega)] at h2
    have hz : k - w.1.length < 1 := (List.getElem?_eq_some_iff.mp h2).1
    have hk0 : k = w.1.length := by omega
    subst hk0
    rw [Nat.sub_self] at h2
    cases h2
    rw [← hW.1]
    exact he
theorem m_tl_mem {B b : Nat} {ls : mLs} {x : Nat × Value} : x ∈ m_tl B b ls ↔ ∃ v, m_ld ls x.1 = some v ∧ x.2 = m_cv B b v := by
  unfold m_tl
  rw [List.mem_filterMap]
  constructor
  · rintro ⟨j, -, h⟩
    cases hv : m_ld ls j with
    | none => rw [hv] at h; cases h
    | some v =>
      rw [hv] at h
      have h := Option.some.inj h
      subst h
      exact ⟨v, hv, rfl⟩
  · rintro ⟨v, h1, h2⟩
    refine ⟨x.1, ?_, by rw [h1]; show some (x.1, m_cv B b v) = some x; rw [← h2]⟩
    rw [List.mem_range]
    unfold m_ld at h1
    cases hq : ls[x.1]? with
    | none => rw [hq] at h1; cases h1
    | some o => exact (List.getElem?_eq_some_iff.mp hq).1
theorem m_has_at {B b : Nat} {la : Array Slot} {n : Nat} {ls : mLs} {k : Nat} {v : Value} (h : lv_has la n (m_tl B b ls)) (hv : m_ld ls k = some v) : la[k]? = some (.val (m_cv B b v)) := h.2.2 (k, m_cv B b v) (m_tl_mem.mpr ⟨v, hv, rfl⟩)
theorem m_has_mono {la : Array Slot} {n : Nat} {l l' : List (Nat × Value)} (h : lv_has la n l) (hs : ∀ q ∈ l', q ∈ l) : lv_has la n l' := ⟨h.1, h.2.1, fun q hq => h.2.2 q (hs q hq)⟩
theorem m_ld_set {ls : mLs} {k j : Nat} {v u : Value} (h : m_ld (ls.set k (some v)) j = some u) : (j = k ∧ u = v) ∨ (j ≠ k ∧ m_ld ls j = some u) := by
  unfold m_ld at h ⊢
  by_cases hjk : j = k
  · subst hjk
    rw [List.getElem?_set] at h
    split at h
    next x hx =>
      split at hx
      · split at hx
        · cases hx
          cases h
          exact Or.inl ⟨rfl, rfl⟩
        · cases hx
      · exact absurd rfl ‹_›
    next => cases h
  · rw [List.getElem?_set_ne (Ne.symm hjk)] at h
    exact Or.inr ⟨hjk, h⟩
theorem m_ld_setn {ls : mLs} {k j : Nat} {u : Value} (h : m_ld (ls.set k none) j = some u) : j ≠ k ∧ m_ld ls j = some u := by
  unfold m_ld at h ⊢
  by_cases hjk : j = k
  · subst hjk
    rw [List.getElem?_set] at h
    split at h
    next x hx =>
      split at hx
      · split at hx <;> cases hx
      · exact absurd rfl ‹_›
    next => cases h
  · rw [List.getElem?_set_ne (Ne.symm hjk)] at h
    exact ⟨hjk, h⟩
/-- longs lie where they may -/
def m_lgo (mi : Nat) (ls : mLs) : Prop := ∀ (i : Nat) (v : Value), m_ld ls i = some v → v.category = 2 → i ∈ m_lg mi
theorem m_sto_ok {mi k : Nat} {ls ls' : mLs} {v : Value} (h : m_sto mi ls k v = some ls') : ls' = ls.set k (some v) ∧ k < m_mxl mi ∧ ∀ j ∈ m_lg mi, ¬ j + 1 = k := by
  unfold m_sto at h
  split at h
  next => cases h
  next hb =>
    rw [Bool.or_eq_false_iff, List.any_eq_false] at hb
    refine ⟨(Option.some.inj h).symm, ?_, fun j hj e => hb.1 j hj (by rw [e]; exact Nat.beq_refl k)⟩
    have h2 := hb.2
    simp only [Bool.not_eq_false'] at h2
    exact Nat.le_of_ble_eq_true h2
theorem m_sto2_ok {mi k : Nat} {ls ls' : mLs} {v : Value} (h : m_sto2 mi ls k v = some ls') : ls' = (ls.set k (some v)).set (k + 1) none ∧ k + 1 < m_mxl mi ∧ k ∈ m_lg mi ∧ ∀ j ∈ m_lg mi, ¬ j + 1 = k ∧ ¬ j = k + 1 := by
  unfold m_sto2 at h
  split at h
  next => cases h
  next hb =>
    rw [Bool.or_eq_false_iff, Bool.or_eq_false_iff, List.any_eq_false] at hb
    obtain ⟨⟨h1, h2⟩, h3⟩ := hb
    simp only [Bool.not_eq_false'] at h2 h3
    refine ⟨(Option.some.inj h).symm, Nat.le_of_ble_eq_true h3, ?_, fun j hj => ⟨fun e => ?_, fun e => ?_⟩⟩
    · obtain ⟨j, hj, e⟩ := List.any_eq_true.mp h2
      rw [← Nat.eq_of_beq_eq_true e]
      exact hj
    · exact h1 j hj (by rw [e, Nat.beq_refl]; rfl)
    · exact h1 j hj (by rw [e, Nat.beq_refl, Bool.or_true])
theorem m_lgo_set {mi k : Nat} {ls : mLs} {v : Value} (h : m_lgo mi ls) (hv : v.category = 1) : m_lgo mi (ls.set k (some v)) := by
  intro i u hu hc
  rcases m_ld_set hu with ⟨-, rfl⟩ | ⟨-, h1⟩
  · omega
  · exact h i u h1 hc
theorem m_lgo_set2 {mi k : Nat} {ls : mLs} {v : Value} (h : m_lgo mi ls) (hk : k ∈ m_lg mi) : m_lgo mi ((ls.set k (some v)).set (k + 1) none) := by
  intro i u hu hc
  rcases m_ld_set (m_ld_setn hu).2 with ⟨rfl, -⟩ | ⟨-, h1⟩
  · exact hk
  · exact h i u h1 hc
theorem m_has_set {B b mi k : Nat} {la : Array Slot} {n : Nat} {ls : mLs} {v : Value} (hg : m_lgo mi ls) (hk : ∀ j ∈ m_lg mi, ¬ j + 1 = k) (h : lv_has la n ((k, m_cv B b v) :: (m_tl B b ls).filter (fun q => !(q.1 == k) && !(q.1 + 1 == k && q.2.category == 2)))) : lv_has la n (m_tl B b (ls.set k (some v))) := by
  refine m_has_mono h fun q hq => ?_
  obtain ⟨u, h1, h2⟩ := m_tl_mem.mp hq
  rcases m_ld_set h1 with ⟨e1, rfl⟩ | ⟨e1, h3⟩
  · obtain ⟨x, y⟩ := q
    dsimp only at e1 h2
    subst e1; subst h2
    exact List.mem_cons_self
  · refine List.mem_cons_of_mem _ (List.mem_filter.mpr ⟨m_tl_mem.mpr ⟨u, h3, h2⟩, ?_⟩)
    by_cases hc : q.1 + 1 = k
    · have hn : ¬ u.category = 2 := fun hc2 => hk q.1 (hg _ _ h3 hc2) hc
      have hn2 : ¬ q.2.category = 2 := by rw [h2, m_cv_cat]; exact hn
      simp [e1, hn2]
    · simp [e1, hc]
theorem m_has_set2 {B b mi k : Nat} {la : Array Slot} {n : Nat} {ls : mLs} {v : Value} (hg : m_lgo mi ls) (hk : ∀ j ∈ m_lg mi, ¬ j + 1 = k ∧ ¬ j = k + 1) (h : lv_has la n ((k, m_cv B b v) :: (m_tl B b ls).filter (fun q => !(q.1 == k) && (!(q.1 == k + 1) && !(q.1 + 1 == k && q.2.category == 2))))) : lv_has la n (m_tl B b ((ls.set k (some v)).set (k + 1) none)) := by
  refine m_has_mono h fun q hq => ?_
  obtain ⟨u, h1, h2⟩ := m_tl_mem.mp hq
  obtain ⟨e0, h1⟩ := m_ld_setn h1
  rcases m_ld_set h1 with ⟨e1, rfl⟩ | ⟨e1, h3⟩
  · obtain ⟨x, y⟩ := q
    dsimp only at e1 h2
    subst e1; subst h2
    exact List.mem_cons_self
  · refine List.mem_cons_of_mem _ (List.mem_filter.mpr ⟨m_tl_mem.mpr ⟨u, h3, h2⟩, ?_⟩)
    by_cases hc : q.1 + 1 = k
    · have hn : ¬ u.category = 2 := fun hc2 => (hk q.1 (hg _ _ h3 hc2)).1 hc
      have hn2 : ¬ q.2.category = 2 := by rw [h2, m_cv_cat]; exact hn
      simp [e1, e0, hn2]
    · simp [e1, e0, hc]
theorem m_slots_lg (B b : Nat) (vs : List Value) : (lg_sl (vs.map (m_cv B b))).length = (m_slots vs).length := by
  induction vs with
  | nil => rfl
  | cons v l ih =>
    simp only [lg_sl, m_slots, List.map_cons, List.flatMap_cons, List.length_append, m_cv_cat] at ih ⊢
    rw [ih]
    congr 1
    by_cases hc : v.category = 2
    · rw [if_pos hc, hc]; rfl
    · rw [if_neg hc]
      have : Nat.beq v.category 2 = false := by
        cases hb : Nat.beq v.category 2 with
        | false => rfl
        | true => exact absurd (Nat.eq_of_beq_eq_true hb) hc
      rw [this]; rfl
theorem m_slots_len (vs : List Value) : (m_slots vs).length = m_cs vs := by
  induction vs with
  | nil => rfl
  | cons v l ih =>
    have e : m_slots (v :: l) = (match Nat.beq v.category 2 with | true => [some v, none] | false => [some v]) ++ m_slots l := rfl
    have e2 : m_cs (v :: l) = v.category + m_cs l := by simp [m_cs]
    rw [e, e2, List.length_append, ih]
    congr 1
    cases v <;> rfl
theorem m_ld_ent {vs : List Value} {k j : Nat} {u : Value} : ∀ (pre : mLs), m_ld (pre ++ m_slots vs ++ List.replicate k none) j = some u → (∃ v, pre[j]? = some v) ∨ (j, u) ∈ lv_args pre.length vs := by
  induction vs with
  | nil =>
    intro pre h
    left
    simp only [m_slots, List.flatMap_nil, List.append_nil] at h
    unfold m_ld at h
    by_cases hl : j < pre.length
    · exact ⟨_, List.getElem?_eq_getElem hl⟩
    · rw [List.getElem?_append_right (by omega), List.getElem?_replicate] at h
      split at h
      next x hx => split at hx <;> cases hx
      next => cases h
  | cons v l ih =>
    intro pre h
    by_cases hc : v.category = 2
    · have e : m_slots (v :: l) = [some v, none] ++ m_slots l := by simp [m_slots, hc]
      have e3 : lv_args pre.length (v :: l) = (pre.length, v) :: lv_args (pre.length + 2) l := by simp [lv_args, hc]
      rw [e, ← List.append_assoc] at h
      rcases ih (pre ++ [some v, none]) h with ⟨x, hx⟩ | h1
      · by_cases hl : j < pre.length
        · exact Or.inl ⟨_, List.getElem?_eq_getElem hl⟩
        · right
          unfold m_ld at h
          rw [List.append_assoc, List.getElem?_append_left (List.getElem?_eq_some_iff.mp hx).1, List.getElem?_append_right (by omega)] at h
          have hl2 := (List.getElem?_eq_some_iff.mp hx).1
          simp only [List.length_append, List.length_cons, List.length_nil] at hl2
          rcases (by omega : j - pre.length = 0 ∨ j - pre.length = 1) with z | z
          · rw [z] at h
            have h : some v = some u := h
            cases h
            rw [e3, show j = pre.length by omega]
            exact List.mem_cons_self
          · rw [z] at h
            cases h
      · right
        rw [e3]
        refine List.mem_cons_of_mem _ ?_
        simpa using h1
    · have e : m_slots (v :: l) = [some v] ++ m_slots l := by
        have hb : Nat.beq v.category 2 = false := by
          cases hb : Nat.beq v.category 2 with
          | false => rfl
          | true => exact absurd (Nat.eq_of_beq_eq_true hb) hc
        simp [m_slots, hb]
      have e3 : lv_args pre.length (v :: l) = (pre.length, v) :: lv_args (pre.length + 1) l := by simp [lv_args, hc]
      rw [e, ← List.append_assoc] at h
      rcases ih (pre ++ [some v]) h with ⟨x, hx⟩ | h1
      · by_cases hl : j < pre.length
        · exact Or.inl ⟨_, List.getElem?_eq_getElem hl⟩
        · right
          unfold m_ld at h
          rw [List.append_assoc, List.getElem?_append_left (List.getElem?_eq_some_iff.mp hx).1, List.getElem?_append_right (by omega)] at h
          have hl2 := (List.getElem?_eq_some_iff.mp hx).1
          simp only [List.length_append, List.length_cons, List.length_nil] at hl2
          have z : j - pre.length = 0 := by omega
          rw [z] at h
          have h : some v = some u := h
          cases h
          rw [e3, show j = pre.length by omega]
          exact List.mem_cons_self
      · right
        rw [e3]
        refine List.mem_cons_of_mem _ ?_
        simpa using h1
theorem m_args_cv (B b : Nat) (vs : List Value) : ∀ (i j : Nat) (u : Value), (j, u) ∈ lv_args i vs → (j, m_cv B b u) ∈ lv_args i (vs.map (m_cv B b)) := by
  induction vs with
  | nil => intro i j u h; cases h
  | cons v l ih =>
    intro i j u h
    rcases List.mem_cons.mp h with h | h
    · cases h
      exact List.mem_cons_self
    · refine List.mem_cons_of_mem _ ?_
      rw [m_cv_cat]
      exact ih _ _ _ h
theorem m_ent_has {B b mi : Nat} {vs : List Value} (h : m_cs vs ≤ m_mxl mi) : lv_has ((lg_sl (vs.map (m_cv B b)) ++ List.replicate (m_mxl mi - (lg_sl (vs.map (m_cv B b))).length) Slot.unset).toArray) (m_mxl mi) (m_tl B b (m_ent mi vs)) := by
  refine m_has_mono (lv_entry (vs.map (m_cv B b)) (by rw [m_slots_lg, m_slots_len]; exact h)) fun q hq => ?_
  obtain ⟨u, h1, h2⟩ := m_tl_mem.mp hq
  unfold m_ent at h1
  rcases m_ld_ent (pre := []) (by simpa using h1) with ⟨x, hx⟩ | h3
  · simp at hx
  · have h4 := m_args_cv B b vs 0 _ _ h3
    rw [← h2] at h4
    exact h4
theorem m_lgc_ok {lg : List Nat} : ∀ (vs : List Value) (i j : Nat) (u : Value), m_lgc lg i vs = true → (j, u) ∈ lv_args i vs → u.category = 2 → j ∈ lg
  | [], _, _, _, _, h, _ => by cases h
  | v :: vs, i, j, u, hb, h, hc => by
    unfold m_lgc at hb
    rcases List.mem_cons.mp h with h | h
    · cases h
      rw [show Nat.beq v.category 2 = true by rw [hc]; rfl] at hb
      obtain ⟨k, hk, e⟩ := List.any_eq_true.mp (Bool.and_eq_true_iff.mp hb).1
      rw [← Nat.eq_of_beq_eq_true e]
      exact hk
    · by_cases hv : v.category = 2
      · rw [show Nat.beq v.category 2 = true by rw [hv]; rfl] at hb
        rw [if_pos hv] at h
        exact m_lgc_ok vs _ j u (Bool.and_eq_true_iff.mp hb).2 h hc
      · have hf : Nat.beq v.category 2 = false := by
          cases hb : Nat.beq v.category 2 with
          | false => rfl
          | true => exact absurd (Nat.eq_of_beq_eq_true hb) hv
        rw [hf] at hb
        rw [if_neg hv] at h
        exact m_lgc_ok vs _ j u hb h hc
theorem m_ent_lgo {mi : Nat} {vs : List Value} (h : m_lgc (m_lg mi) 0 vs = true) : m_lgo mi (m_ent mi vs) := by
  intro i v hv hc
  rcases m_ld_ent (pre := []) (by simpa [m_ent] using hv) with ⟨x, hx⟩ | h3
  · simp at hx
  · exact m_lgc_ok vs 0 i v h h3 hc
end
section
/-! one instruction of the interpreter is one of the machine -/
def m_Cx (S : mS) (B b : Nat) (cA : Nat → ClassId) (D : va_G) (mi : Nat) (p : Program) (R : Room) (s : State) (m : MethodId) (args : Array Value) (meth : Method) (c : Code) : Prop :=
  p.tables.exec = Jvm.exec ∧ c.code = m_cod mi ∧ c.maxLocals = m_mxl mi ∧ s.vm.findClass (m_own mi) = some m.cls ∧ (∀ w ∈ m_gw, w.before args s = true) ∧ m_Sx S B b cA D s ∧ (m_isI mi = true → meth.name = "<init>") ∧ m_rF mi ≤ R.frames ∧ m_rL mi ≤ R.locals
def m_FW (B b : Nat) (cA : Nat → ClassId) (D : va_G) (mi : Nat) (p : Program) (l : Launch) (e : Env) (R : Room) (s : State) (m : MethodId) (args : Array Value) (below : List Frame) (meth : Method) (c : Code) (cells slots : Nat) (Q : State → Prop) (pc : Nat) (ls : mLs) (st : List Value) (w : mW) : Prop :=
  m_lgo mi ls → ∀ (H : Heap) (locs : List Loc) (la : Array Slot), m_Wo B b cA D w H → va_S (fun q => B ≤ q) s.heap H locs → lv_has la (m_mxl mi) (m_tl B b ls) →
    W p l e R s m args below meth c H locs cells slots Q (F0 m pc la (st.map (m_cv B b)))
theorem m_lk {i : Instr} {len n : Nat} (hl : m_lenOk i len = true) (h : m_len i = n) (h0 : ¬ n = 0) : n = len := by
  unfold m_lenOk at hl
  rw [h] at hl
  rcases Bool.or_eq_true_iff.mp hl with h1 | h1
  · exact absurd (Nat.eq_of_beq_eq_true h1) h0
  · exact Nat.eq_of_beq_eq_true h1
theorem m_i1_inv {α : Type} {st : List Value} {f : Int32 → List Value → Option α} {x : α} (h : m_i1 st f = some x) : ∃ a r, st = .int a :: r ∧ f a r = some x := by
  unfold m_i1 at h
  split at h
  · exact ⟨_, _, rfl, h⟩
  · cases h
theorem m_i2_inv {α : Type} {st : List Value} {f : Int32 → Int32 → List Value → Option α} {x : α} (h : m_i2 st f = some x) : ∃ a b r, st = .int b :: .int a :: r ∧ f a b r = some x := by
  unfold m_i2 at h
  split at h
  · exact ⟨_, _, _, rfl, h⟩
  · cases h
theorem m_l1_inv {α : Type} {st : List Value} {f : Int64 → List Value → Option α} {x : α} (h : m_l1 st f = some x) : ∃ a r, st = .long a :: r ∧ f a r = some x := by
  unfold m_l1 at h
  split at h
  · exact ⟨_, _, rfl, h⟩
  · cases h
theorem m_l2_inv {α : Type} {st : List Value} {f : Int64 → Int64 → List Value → Option α} {x : α} (h : m_l2 st f = some x) : ∃ a b r, st = .long b :: .long a :: r ∧ f a b r = some x := by
  unfold m_l2 at h
  split at h
  · exact ⟨_, _, _, rfl, h⟩
  · cases h
theorem m_li_inv {α : Type} {st : List Value} {f : Int64 → Int32 → List Value → Option α} {x : α} (h : m_li st f = some x) : ∃ a b r, st = .int b :: .long a :: r ∧ f a b r = some x := by
  unfold m_li at h
  split at h
  · exact ⟨_, _, _, rfl, h⟩
  · cases h
theorem m_a1_inv {α : Type} {st : List Value} {f : Nat → List Value → Option α} {x : α} (h : m_a1 st f = some x) : ∃ a r, st = .ref a :: r ∧ f a r = some x := by
  unfold m_a1 at h
  split at h
  · exact ⟨_, _, rfl, h⟩
  · cases h
theorem m_ai_inv {α : Type} {st : List Value} {f : Nat → Int32 → List Value → Option α} {x : α} (h : m_ai st f = some x) : ∃ a j r, st = .int j :: .ref a :: r ∧ f a j r = some x := by
  unfold m_ai at h
  split at h
  · exact ⟨_, _, _, rfl, h⟩
  · cases h
theorem m_aii_inv {α : Type} {st : List Value} {f : Nat → Int32 → Int32 → List Value → Option α} {x : α} (h : m_aii st f = some x) : ∃ a j v r, st = .int v :: .int j :: .ref a :: r ∧ f a j v r = some x := by
  unfold m_aii at h
  split at h
  · exact ⟨_, _, _, _, rfl, h⟩
  · cases h
theorem m_ail_inv {α : Type} {st : List Value} {f : Nat → Int32 → Int64 → List Value → Option α} {x : α} (h : m_ail st f = some x) : ∃ a j v r, st = .long v :: .int j :: .ref a :: r ∧ f a j v r = some x := by
  unfold m_ail at h
  split at h
  · exact ⟨_, _, _, _, rfl, h⟩
  · cases h
theorem m_aia_inv {α : Type} {st : List Value} {f : Nat → Int32 → Nat → List Value → Option α} {x : α} (h : m_aia st f = some x) : ∃ a j v r, st = .ref v :: .int j :: .ref a :: r ∧ f a j v r = some x := by
  unfold m_aia at h
  split at h
  · exact ⟨_, _, _, _, rfl, h⟩
  · cases h
theorem m_kd_inv {w : mW} {a k : Nat} {α : Type} {y : Option α} {x : α} (h : m_kd w a k y = some x) : Nat.beq (m_sh w a).1 k = true ∧ y = some x := by
  unfold m_kd at h
  split at h
  next hb => exact ⟨hb, h⟩
  next => cases h
theorem m_fnd_mem {α : Type} {l : List (Nat × α)} {k : Nat} {x : α} (h : m_fnd l k = some x) : (k, x) ∈ l := by
  induction l with
  | nil => cases h
  | cons q l ih =>
    obtain ⟨i, y⟩ := q
    unfold m_fnd at h
    split at h
    next hb =>
      cases h
      rw [Nat.eq_of_beq_eq_true hb]
      exact List.mem_cons_self
    next => exact List.mem_cons_of_mem _ (ih h)
theorem m_val_inv {ls : mLs} {k n pc t : Nat} {st : List Value} {w : mW} {x : Option Bool × mC} (h : m_val ls k n pc st w t = some x) : ∃ v, m_ld ls k = some v ∧ x = (none, pc + n, ls, v :: st, w) ∧ ((t = 0 ∧ ∃ y, v = .int y) ∨ (t = 1 ∧ ∃ y, v = .long y) ∨ (t = 2 ∧ ∃ y, v = .ref y)) := by
  unfold m_val at h
  split at h
  next y hv => cases h; exact ⟨_, hv, rfl, Or.inl ⟨rfl, _, rfl⟩⟩
  next y hv => cases h; exact ⟨_, hv, rfl, Or.inr (Or.inl ⟨rfl, _, rfl⟩)⟩
  next y hv => cases h; exact ⟨_, hv, rfl, Or.inr (Or.inr ⟨rfl, _, rfl⟩)⟩
  next => cases h
theorem m_put_inv {mi k n pc : Nat} {ls : mLs} {v : Value} {r : List Value} {w : mW} {x : Option Bool × mC} (h : m_put mi ls k n pc v r w = some x) : k < m_mxl mi ∧ (∀ j ∈ m_lg mi, ¬ j + 1 = k) ∧ x = (none, pc + n, ls.set k (some v), r, w) := by
  unfold m_put at h
  split at h
  next ls' hs =>
    cases h
    obtain ⟨rfl, h1, h2⟩ := m_sto_ok hs
    exact ⟨h1, h2, rfl⟩
  next => cases h
theorem m_put2_inv {mi k n pc : Nat} {ls : mLs} {v : Value} {r : List Value} {w : mW} {x : Option Bool × mC} (h : m_put2 mi ls k n pc v r w = some x) : k + 1 < m_mxl mi ∧ k ∈ m_lg mi ∧ (∀ j ∈ m_lg mi, ¬ j + 1 = k ∧ ¬ j = k + 1) ∧ x = (none, pc + n, (ls.set k (some v)).set (k + 1) none, r, w) := by
  unfold m_put2 at h
  split at h
  next ls' hs =>
    cases h
    obtain ⟨rfl, h1, h2, h3⟩ := m_sto2_ok hs
    exact ⟨h1, h2, h3, rfl⟩
  next => cases h
theorem m_tgt_ok {pc t : Nat} {off : Int} (h : m_tgt pc off = some t) : (pc : Int) + off = (t : Int) := by
  unfold m_tgt at h
  split at h
  next n hn => cases h; exact hn
  next => cases h
theorem m_offs_ok {pc : Nat} {os : List Int} (h : m_offs pc os = true) {o : Int} (ho : o ∈ os) : (pc : Int) + o = (((pc : Int) + o).toNat : Int) := by
  have := of_decide_eq_true (List.all_eq_true.mp h o ho)
  omega
theorem m_ofInt {x : Int32} {k : Int} (h1 : -2147483648 ≤ k) (h2 : k ≤ 2147483647) : x = Int32.ofInt k ↔ x.toInt = k := by
  have e : (Int32.ofInt k).toInt = k := Int32.toInt_ofInt_of_le (by simpa using h1) (by simp; omega)
  rw [← Int32.toInt_inj, e]
theorem m_tsw_ok (pc : Nat) (x : Int32) (d : Int) : ∀ (offs : List Int) (lo : Int), -2147483648 ≤ lo → lo + (offs.length : Int) - 1 ≤ 2147483647 →
    ((x.toInt < lo ∨ lo + (offs.length : Int) - 1 < x.toInt) → m_tsw pc x d lo offs = ((pc : Int) + d).toNat) ∧ (∀ o, lo ≤ x.toInt → offs[(x.toInt - lo).toNat]? = some o → m_tsw pc x d lo offs = ((pc : Int) + o).toNat)
  | [], lo, _, _ => ⟨fun _ => rfl, fun o _ h => by simp at h⟩
  | o :: os, lo, h1, h2 => by
    simp only [List.length_cons, Int.natCast_add] at h2 ⊢
    have ih := m_tsw_ok pc x d os (lo + 1) (by omega) (by omega)
    have hx : x = Int32.ofInt lo ↔ x.toInt = lo := m_ofInt h1 (by omega)
    refine ⟨fun h => ?_, fun u h3 h4 => ?_⟩
    · unfold m_tsw
      rw [if_neg (fun q => by have := hx.mp q; omega)]
      exact ih.1 (by omega)
    · unfold m_tsw
      by_cases hq : x.toInt = lo
      · rw [if_pos (hx.mpr hq)]
        rw [show (x.toInt - lo).toNat = 0 by omega] at h4
        cases h4
        rfl
      · rw [if_neg (fun q => hq (hx.mp q))]
        refine ih.2 u (by omega) ?_
        rw [show (x.toInt - lo).toNat = (x.toInt - (lo + 1)).toNat + 1 by omega, List.getElem?_cons_succ] at h4
        exact h4
theorem m_lsw_ok (pc : Nat) (x : Int32) (d : Int) : ∀ (ps : List (Int × Int)), (∀ q ∈ ps, -2147483648 ≤ q.1 ∧ q.1 ≤ 2147483647) → m_lsw pc x d ps = ((pc : Int) + Op.lookupswitch.offset ps d x.toInt).toNat
  | [], _ => by rw [Op.lookupswitch.offset_nil]; rfl
  | (k, o) :: ps, h => by
    have hk := h (k, o) List.mem_cons_self
    have hx : x = Int32.ofInt k ↔ x.toInt = k := m_ofInt hk.1 hk.2
    rw [Op.lookupswitch.offset_cons]
    unfold m_lsw
    by_cases hq : x.toInt = k
    · rw [if_pos (hx.mpr hq)]
      first | rw [if_pos hq] | rw [if_pos hq.symm]
    · rw [if_neg (fun q => hq (hx.mp q))]
      first | rw [if_neg hq] | rw [if_neg (fun q => hq q.symm)]
      exact m_lsw_ok pc x d ps (fun q hq => h q (List.mem_cons_of_mem _ hq))
theorem m_offmem (d : Int) (x : Int) : ∀ (ps : List (Int × Int)), Op.lookupswitch.offset ps d x ∈ d :: ps.map Prod.snd
  | [] => by rw [Op.lookupswitch.offset_nil]; exact List.mem_cons_self
  | (k, o) :: ps => by
    rw [Op.lookupswitch.offset_cons]
    split
    · exact List.mem_cons_of_mem _ List.mem_cons_self
    · rcases List.mem_cons.mp (m_offmem d x ps) with h | h
      · rw [h]; exact List.mem_cons_self
      · exact List.mem_cons_of_mem _ (List.mem_cons_of_mem _ h)
section STEP
variable {S : mS} {B b : Nat} {cA : Nat → ClassId} {D : va_G} {mi : Nat} {p : Program} {l : Launch} {e : Env} {R : Room} {s : State} {m : MethodId} {args : Array Value} {below : List Frame} {meth : Method} {c : Code} {cells slots : Nat} {Q : State → Prop}
theorem m_stp {pc pc' : Nat} {ls : mLs} {st st' : List Value} {w : mW} (h : ∀ (H : Heap) (locs : List Loc) (la : Array Slot), m_Wo B b cA D w H → va_S (fun q => B ≤ q) s.heap H locs → lv_has la (m_mxl mi) (m_tl B b ls) → W p l e R s m args below meth c H locs cells slots Q (F0 m pc' la (st'.map (m_cv B b))) → W p l e R s m args below meth c H locs cells slots Q (F0 m pc la (st.map (m_cv B b))))
    (k : m_FW B b cA D mi p l e R s m args below meth c (cells + (w.1.length - w.1.length)) (slots + (m_szs w - m_szs w)) Q pc' ls st' w) : m_FW B b cA D mi p l e R s m args below meth c cells slots Q pc ls st w := by
  rw [Nat.sub_self, Nat.sub_self, Nat.add_zero, Nat.add_zero] at k
  exact fun hg H locs la hW hS hL => h H locs la hW hS hL (k hg H locs la hW hS hL)
theorem m_stl {pc pc' k : Nat} {ls : mLs} {v : Value} {st st' : List Value} {w : mW} (hv : v.category = 1) (hk : ∀ j ∈ m_lg mi, ¬ j + 1 = k)
    (h : ∀ (H : Heap) (locs : List Loc) (la : Array Slot), lv_has la (m_mxl mi) (m_tl B b ls) → (∀ la' : Array Slot, lv_has la' (m_mxl mi) ((k, m_cv B b v) :: (m_tl B b ls).filter (fun q => !(q.1 == k) && !(q.1 + 1 == k && q.2.category == 2))) → W p l e R s m args below meth c H locs cells slots Q (F0 m pc' la' (st'.map (m_cv B b)))) → W p l e R s m args below meth c H locs cells slots Q (F0 m pc la (st.map (m_cv B b))))
    (kk : m_FW B b cA D mi p l e R s m args below meth c (cells + (w.1.length - w.1.length)) (slots + (m_szs w - m_szs w)) Q pc' (ls.set k (some v)) st' w) : m_FW B b cA D mi p l e R s m args below meth c cells slots Q pc ls st w := by
  rw [Nat.sub_self, Nat.sub_self, Nat.add_zero, Nat.add_zero] at kk
  exact fun hg H locs la hW hS hL => h H locs la hL (fun la' hL' => kk (m_lgo_set hg hv) H locs la' hW hS (m_has_set hg hk hL'))
theorem m_stl2 {pc pc' k : Nat} {ls : mLs} {v : Value} {st st' : List Value} {w : mW} (hk0 : k ∈ m_lg mi) (hk : ∀ j ∈ m_lg mi, ¬ j + 1 = k ∧ ¬ j = k + 1)
    (h : ∀ (H : Heap) (locs : List Loc) (la : Array Slot), lv_has la (m_mxl mi) (m_tl B b ls) → (∀ la' : Array Slot, lv_has la' (m_mxl mi) ((k, m_cv B b v) :: (m_tl B b ls).filter (fun q => !(q.1 == k) && (!(q.1 == k + 1) && !(q.1 + 1 == k && q.2.category == 2)))) → W p l e R s m args below meth c H locs cells slots Q (F0 m pc' la' (st'.map (m_cv B b)))) → W p l e R s m args below meth c H locs cells slots Q (F0 m pc la (st.map (m_cv B b))))
    (kk : m_FW B b cA D mi p l e R s m args below meth c (cells + (w.1.length - w.1.length)) (slots + (m_szs w - m_szs w)) Q pc' ((ls.set k (some v)).set (k + 1) none) st' w) : m_FW B b cA D mi p l e R s m args below meth c cells slots Q pc ls st w := by
  rw [Nat.sub_self, Nat.sub_self, Nat.add_zero, Nat.add_zero] at kk
  exact fun hg H locs la hW hS hL => h H locs la hL (fun la' hL' => kk (m_lgo_set2 hg hk0) H locs la' hW hS (m_has_set2 hg hk hL'))
/-- a step that changes the world, not what was made -/
theorem m_stw {pc pc' : Nat} {ls : mLs} {st st' : List Value} {w w' : mW} (hw1 : w'.1 = w.1) (h : ∀ (H : Heap) (locs : List Loc) (la : Array Slot), m_Wo B b cA D w H → va_S (fun q => B ≤ q) s.heap H locs → (∀ (H1 : Heap) (locs1 : List Loc), m_Wo B b cA D w' H1 → va_S (fun q => B ≤ q) s.heap H1 locs1 → W p l e R s m args below meth c H1 locs1 cells slots Q (F0 m pc' la (st'.map (m_cv B b)))) → W p l e R s m args below meth c H locs cells slots Q (F0 m pc la (st.map (m_cv B b))))
    (k : m_FW B b cA D mi p l e R s m args below meth c (cells + (w'.1.length - w.1.length)) (slots + (m_szs w' - m_szs w)) Q pc' ls st' w') : m_FW B b cA D mi p l e R s m args below meth c cells slots Q pc ls st w := by
  unfold m_szs at k
  rw [hw1, Nat.sub_self, Nat.sub_self, Nat.add_zero, Nat.add_zero] at k
  exact fun hg H locs la hW hS hL => h H locs la hW hS (fun H1 locs1 hW1 hS1 => k hg H1 locs1 la hW1 hS1 hL)
end STEP
end
section
/-! every instruction of the interpreter, proved of the machine -/
section EXE
variable {S : mS} {B b : Nat} {cA : Nat → ClassId} {D : va_G} {mi : Nat} {p : Program} {l : Launch} {e : Env} {R : Room} {s : State} {m : MethodId} {args : Array Value} {below : List Frame} {meth : Method} {c : Code} {cells slots : Nat} {Q : State → Prop}
theorem m_cells_ge {w : mW} {k : Nat} {f : Nat → Value} {j : Nat} (hj : j < m_N k) : ((List.range (m_N k)).map f)[j]? = some (f j) := by
  rw [List.getElem?_map, List.getElem?_range hj]
  rfl
theorem m_x_get (C : m_Cx S B b cA D mi p R s m args meth c) {k pc i n ci j t : Nat} {ls : mLs} {r : List Value} {w : mW} (hd : decode (m_cod mi) pc = .ok (.getfield k, 3)) (hq : w.1[i]? = some (ci, n)) (hf : m_fldOk (m_own mi) (k, ci, j, t))
    (kk : m_FW B b cA D mi p l e R s m args below meth c (cells + (w.1.length - w.1.length)) (slots + (m_szs w - m_szs w)) Q (pc + 3) ls (m_fv w (i + 1) j t :: r) w) : m_FW B b cA D mi p l e R s m args below meth c cells slots Q pc ls (.ref (i + 1) :: r) w := by
  obtain ⟨hx, hb, hml, hown, hts, ⟨hK, -⟩, -⟩ := C
  obtain ⟨hci, hj, htc, -, hlink, -⟩ := hf
  dsimp only at hci hj htc hlink
  obtain ⟨h1, h2, -⟩ := m_cl_ok hci
  refine m_stp (fun H locs la hW hS hL k9 => ?_) kk
  show W p l e R s m args below meth c H locs cells slots Q (F0 m pc la (.ref (B + i) :: r.map (m_cv B b)))
  refine va_get (D := D) (cl := vwCl) (v := m_cv B b (m_fv w (i + 1) j t)) hx hb hts h2 hown hK hW.2 i ((m_wl_get hq).trans (by rw [m_ce_obj hci])) h1 j hj (hts _ hlink) (fun _ h9 => h9) ?_ hd k9
  rw [m_cells_ge (w := w) hj, htc]
theorem m_putW {k pc i n ci j t : Nat} {w w' : mW} {H : Heap} {locs : List Loc} {la : Array Slot} {v : Value} {rest : List Value} (C : m_Cx S B b cA D mi p R s m args meth c) (hW : m_Wo B b cA D w H) (hS : va_S (fun q => B ≤ q) s.heap H locs) (hd : decode (m_cod mi) pc = .ok (.putfield k, 3)) (hq : w.1[i]? = some (ci, n)) (hf : m_fldOk (m_own mi) (k, ci, j, t)) (hfin : (m_T ci j).2.2.2 = false ∨ (meth.name = "<init>" ∧ ci = m_owi mi))
    (hn : narrow (m_ty ci j) v = v) (hfit : fits (m_ty ci j) v = true) (hw1 : w'.1 = w.1) (hsame : ∀ a, a ≠ i + 1 → w'.2.1 a = w.2.1 a ∧ w'.2.2.1 a = w.2.2.1 a ∧ w'.2.2.2 a = w.2.2.2 a)
    (hv : ∀ y, y < m_N ci → m_cv B b (m_fv w' (i + 1) y (m_tco (m_ty ci y))) = if y = j then v else m_cv B b (m_fv w (i + 1) y (m_tco (m_ty ci y))))
    (kk : ∀ (H1 : Heap) (locs1 : List Loc), m_Wo B b cA D w' H1 → va_S (fun q => B ≤ q) s.heap H1 locs1 → W p l e R s m args below meth c H1 locs1 cells slots Q (F0 m (pc + 3) la rest)) : W p l e R s m args below meth c H locs cells slots Q (F0 m pc la (v :: .ref (B + i) :: rest)) := by
  obtain ⟨hx, hb, hml, hown, hts, ⟨hK, -⟩, -⟩ := C
  obtain ⟨hci, hj, htc, -, hlink, hdecl⟩ := hf
  dsimp only at hci hj htc hlink hdecl
  obtain ⟨hc, hin, hty, hnm, -⟩ := m_cl_ok hci
  have hap := va_apart (own := m_own mi) hts hin (m_ty ci) hty hnm hK hc
  have hat := hW.2 i _ (m_wl_get hq)
  rw [m_ce_obj hci] at hat
  obtain ⟨r, hr, cell, q1, q2, q3, q4⟩ := hat
  have hr2 := Option.some.inj (hr.symm.trans hc)
  subst hr2
  obtain ⟨hSl, hfc, kC, hkC, hkind⟩ := hK.1 ci _ hc
  obtain ⟨cf, kf, fi, f, hi, hsl⟩ := hSl j hj
  have hfacts := u_facts hfc hkC (u_lays hts hin hj) hi
  have hlt : f.slot < cell.slots.size := by rw [hsl]; exact k2_hasslot (q4 j hj)
  have fin : ∀ H1 : Heap, H1[B + i]? = some (cell.setSlot f.slot v) → H1.size = H.size → (∀ q, q ≠ B + i → H1[q]? = H[q]?) → m_Wo B b cA D w' H1 := by
    intro H1 e1 e2 e3
    refine m_Wo_set hW hq hw1 hsame ?_ e2 e3
    rw [m_ce_obj hci]
    rw [hsl] at e1
    refine ⟨_, hc, t_OB.to (V := updV (vp_V ((List.range (m_N ci)).map fun j => m_cv B b (m_fv w (i + 1) j (m_tco (m_ty ci j))))) j v) ⟨_, e1, q2, q3, t_set q4 hap hj v⟩ (fun y hy => ?_)⟩
    have e5 : ∀ g : Nat → Value, vp_V ((List.range (m_N ci)).map g) y = g y := by
      intro g
      unfold vp_V
      rw [List.getD_eq_getElem?_getD, m_cells_ge (w := w) hy]
      rfl
    unfold updV
    rw [e5, e5, hv y hy]
  have hlay := hts _ (hin _ (u_in_lay hj))
  unfold u_lay at hlay
  by_cases hff : (m_T ci j).2.2.2 = true
  · rw [if_pos hff] at hlay
    have hin2 : meth.name = "<init>" ∧ ci = m_owi mi := by
      rcases hfin with h | h
      · rw [hff] at h; cases h
      · exact h
    have h6 := u_fits hfc hkC hkind (Or.inr hlay) hi (hty j hj) hn hfit
    have hcf : m.cls = cf := by
      obtain ⟨_, _, c', _, _, _, -, -, hf', -, -, -, hown2, -⟩ := Cond.laysFinal_spec hlay
      have e1 : c' = cf := by have := hi.symm.trans hf'; simp at this; exact this.1.symm
      have hO : (m_T ci j).1 = m_own mi := by rw [hdecl, hin2.2]; rfl
      rw [hO] at hown2
      rw [← e1]; exact Option.some.inj (hown.symm.trans hown2)
    exact W.putFinK hx hb hown (hts _ hlink) hi hfacts.1 hcf hin2.1 (by rw [q2]; exact h6) q1 q3 hlt rfl rfl hd fun H1 e1 e2 e3 => kk H1 _ (fin H1 e1 e2 e3) (hS.put e2 e3 (Nat.le_add_right _ _))
  · have hff : (m_T ci j).2.2.2 = false := by simpa using hff
    rw [if_neg (by rw [hff]; decide)] at hlay
    have h6 := u_store hfc hkC hkind hlay hi (hty j hj) hn hfit
    exact W.putK hx hb (f := f) ⟨hown, hts _ hlink, ⟨_, _, _, hi⟩, hfacts.1⟩ (by rw [q2]; exact h6) q1 q3 hlt rfl rfl hd fun H1 e1 e2 e3 => kk H1 _ (fin H1 e1 e2 e3) (hS.put e2 e3 (Nat.le_add_right _ _))
theorem m_tco2 {t : FieldType} (h : m_tco t = 2) (a : Nat) : narrow t (.ref a) = .ref a ∧ fits t (.ref a) = true := by
  cases t <;> first | (exact ⟨rfl, rfl⟩) | (simp [m_tco] at h; done)
theorem m_tco1 {t : FieldType} (h : m_tco t = 1) : t = .long := by
  cases t <;> first | rfl | (simp [m_tco] at h; done)
theorem m_tco3 {t : FieldType} (h : m_tco t = 3) : t = .boolean := by
  cases t <;> first | rfl | (simp [m_tco] at h; done)
theorem m_bl_ok {x : Int32} (h : m_bl x = true) : narrow .boolean (.int x) = .int x ∧ fits .boolean (.int x) = true := by
  rcases of_decide_eq_true h with rfl | rfl
  · exact ⟨by decide +kernel, by decide +kernel⟩
  · exact ⟨by decide +kernel, by decide +kernel⟩
theorem m_fv_I {w : mW} {a j y t k : Nat} {x : Int32} (ht : t = 0 ∨ t = 3) (hk : k = j → t = m_tco (m_ty y j)) : m_fv (m_sI w a j x) a k (m_tco (m_ty y k)) = if k = j then .int x else m_fv w a k (m_tco (m_ty y k)) := by
  by_cases h : k = j
  · subst h
    rw [if_pos rfl, ← hk rfl]
    rcases ht with rfl | rfl <;> simp [m_fv, m_sI, m_up]
  · rw [if_neg h]
    unfold m_fv m_sI
    dsimp only
    rw [m_up_eq, if_neg h]
theorem m_fv_L {w : mW} {a j y k : Nat} {x : Int64} (hk : m_tco (m_ty y j) = 1) : m_fv (m_sL w a j x) a k (m_tco (m_ty y k)) = if k = j then .long x else m_fv w a k (m_tco (m_ty y k)) := by
  by_cases h : k = j
  · subst h
    rw [if_pos rfl, hk]
    simp [m_fv, m_sL, m_up]
  · rw [if_neg h]
    unfold m_fv m_sL
    dsimp only
    rw [m_up_eq, if_neg h]
theorem m_fv_R {w : mW} {a j y k : Nat} {x : Nat} (hk : m_tco (m_ty y j) = 2) : m_fv (m_sR w a j (some x)) a k (m_tco (m_ty y k)) = if k = j then .ref x else m_fv w a k (m_tco (m_ty y k)) := by
  by_cases h : k = j
  · subst h
    rw [if_pos rfl, hk]
    simp [m_fv, m_sR, m_up, va_rf]
  · rw [if_neg h]
    unfold m_fv m_sR
    dsimp only
    rw [m_up_eq, if_neg h]
theorem m_sI_ne {w : mW} {i k a : Nat} {x : Int32} (h : a ≠ i + 1) : (m_sI w (i + 1) k x).2.1 a = w.2.1 a ∧ (m_sI w (i + 1) k x).2.2.1 a = w.2.2.1 a ∧ (m_sI w (i + 1) k x).2.2.2 a = w.2.2.2 a := ⟨m_up_ne h, rfl, rfl⟩
theorem m_sL_ne {w : mW} {i k a : Nat} {x : Int64} (h : a ≠ i + 1) : (m_sL w (i + 1) k x).2.1 a = w.2.1 a ∧ (m_sL w (i + 1) k x).2.2.1 a = w.2.2.1 a ∧ (m_sL w (i + 1) k x).2.2.2 a = w.2.2.2 a := ⟨rfl, m_up_ne h, rfl⟩
theorem m_sR_ne {w : mW} {i k a : Nat} {x : Option Nat} (h : a ≠ i + 1) : (m_sR w (i + 1) k x).2.1 a = w.2.1 a ∧ (m_sR w (i + 1) k x).2.2.1 a = w.2.2.1 a ∧ (m_sR w (i + 1) k x).2.2.2 a = w.2.2.2 a := ⟨rfl, rfl, m_up_ne h⟩
theorem m_x_putf (C : m_Cx S B b cA D mi p R s m args meth c) {k pc : Nat} {ls ls' : mLs} {st st' : List Value} {w w' : mW} {g : Option Bool} {pc' : Nat} (hd : decode (m_cod mi) pc = .ok (.putfield k, 3)) (he : m_putf mi k pc ls st w = some (g, pc', ls', st', w')) (hg : g ≠ some false)
    (kk : m_FW B b cA D mi p l e R s m args below meth c (cells + (w'.1.length - w.1.length)) (slots + (m_szs w' - m_szs w)) Q pc' ls' st' w') : m_FW B b cA D mi p l e R s m args below meth c cells slots Q pc ls st w := by
  unfold m_putf at he
  split at he
  next v a r =>
    split at he
    next ci j t hf0 =>
      have hf : m_fldOk (m_own mi) (k, ci, j, t) := m_flds_ok (m_owi mi) _ (m_fnd_mem hf0)
      split at he
      next hb =>
        obtain ⟨h1, h2⟩ := Bool.and_eq_true_iff.mp hb
        have hci : ci < 7 := hf.1
        obtain ⟨i, n, rfl, hq, -⟩ := m_sh_get h1 (by omega)
        have hfin : (m_T ci j).2.2.2 = false ∨ (meth.name = "<init>" ∧ ci = m_owi mi) := by
          rcases Bool.or_eq_true_iff.mp h2 with h | h
          · left; simpa using h
          · right
            obtain ⟨h3, h4⟩ := Bool.and_eq_true_iff.mp h
            exact ⟨C.2.2.2.2.2.2.1 h3, Nat.eq_of_beq_eq_true h4⟩
        have htc : m_tco (m_ty ci j) = t := hf.2.2.1
        clear hf0
        split at he
        next x =>
          cases he
          have hty : m_ty ci j = .int := hf.2.2.2.1 rfl
          refine m_stw (w' := m_sI w (i + 1) j x) rfl (fun H locs la hW hS k9 => ?_) kk
          refine m_putW (w' := m_sI w (i + 1) j x) C hW hS hd hq hf hfin (v := .int x) (by rw [hty]; exact vp_nar_int x) (by rw [hty]; rfl) rfl (fun a ha => m_sI_ne ha) (fun y hy => ?_) k9
          rw [m_fv_I (Or.inl rfl) (fun _ => htc.symm)]
          by_cases hyj : y = j
          · rw [if_pos hyj, if_pos hyj]; rfl
          · rw [if_neg hyj, if_neg hyj]
        next x =>
          cases he
          have hty : m_ty ci j = .boolean := m_tco3 htc
          have hx : m_bl x = true := by
            cases hb : m_bl x with
            | true => rfl
            | false => rw [hb] at hg; exact absurd rfl hg
          refine m_stw (w' := m_sI w (i + 1) j x) rfl (fun H locs la hW hS k9 => ?_) kk
          refine m_putW (w' := m_sI w (i + 1) j x) C hW hS hd hq hf hfin (v := .int x) (by rw [hty]; exact (m_bl_ok hx).1) (by rw [hty]; exact (m_bl_ok hx).2) rfl (fun a ha => m_sI_ne ha) (fun y hy => ?_) k9
          rw [m_fv_I (Or.inr rfl) (fun _ => htc.symm)]
          by_cases hyj : y = j
          · rw [if_pos hyj, if_pos hyj]; rfl
          · rw [if_neg hyj, if_neg hyj]
        next x =>
          cases he
          have hty : m_ty ci j = .long := m_tco1 htc
          refine m_stw (w' := m_sL w (i + 1) j x) rfl (fun H locs la hW hS k9 => ?_) kk
          refine m_putW (w' := m_sL w (i + 1) j x) C hW hS hd hq hf hfin (v := .long x) (by rw [hty]; rfl) (by rw [hty]; rfl) rfl (fun a ha => m_sL_ne ha) (fun y hy => ?_) k9
          rw [m_fv_L htc]
          by_cases hyj : y = j
          · rw [if_pos hyj, if_pos hyj]; rfl
          · rw [if_neg hyj, if_neg hyj]
        next x =>
          cases he
          refine m_stw (w' := m_sR w (i + 1) j (some x)) rfl (fun H locs la hW hS k9 => ?_) kk
          refine m_putW (w' := m_sR w (i + 1) j (some x)) C hW hS hd hq hf hfin (v := .ref (m_ad B b x)) (m_tco2 htc _).1 (m_tco2 htc _).2 rfl (fun a ha => m_sR_ne ha) (fun y hy => ?_) k9
          rw [m_fv_R htc]
          by_cases hyj : y = j
          · rw [if_pos hyj, if_pos hyj]; rfl
          · rw [if_neg hyj, if_neg hyj]
        next => cases he
      next => cases he
    next => cases he
  next => cases he
end EXE
end
section
/-! arrays and making, proved of the machine -/
section ARR
variable {S : mS} {B b : Nat} {cA : Nat → ClassId} {D : va_G} {mi : Nat} {p : Program} {l : Launch} {e : Env} {R : Room} {s : State} {m : MethodId} {args : Array Value} {below : List Frame} {meth : Method} {c : Code} {cells slots : Nat} {Q : State → Prop}
theorem m_okin {j : Int32} {n : Nat} {g : Option Bool} (hg : some (m_ok j n) ≠ some false) : vp_in j n := by
  have h : m_ok j n = true := by
    cases hb : m_ok j n with
    | true => rfl
    | false => rw [hb] at hg; exact absurd rfl hg
  exact (of_decide_eq_true (p := ¬ (j < 0 ∨ n ≤ j.toNatClampNeg)) h : ¬ (j < 0 ∨ n ≤ j.toNatClampNeg))
theorem m_okin2 {j : Int32} {n : Nat} (hg : some (m_ok j n) ≠ some false) : vp_in j n := m_okin (g := none) hg
theorem m_at_i {H1 : Heap} {a n k : Nat} {cI : ClassId} {f g : Nat → Int32} {v : Value} {x : Int32} (hv : v = .int x) (e : H1[a]? = some ((vp_cell cI (n, .inl f)).setSlot k v)) (hg : ∀ y, g y = if y = k then x else f y) : H1[a]? = some (vp_cell cI (n, .inl g)) := by
  rw [e, hv, vp_cell_i, vp_cell_i, arrV_store]
  congr 2
  funext q
  unfold updV
  rw [hg]
  by_cases hq : q = k
  · rw [if_pos hq, if_pos hq]
  · rw [if_neg hq, if_neg hq]
theorem m_at_l {H1 : Heap} {a n k : Nat} {cI : ClassId} {f g : Nat → Int64} {x : Int64} (e : H1[a]? = some ((vp_cell cI (n, .inr (.inl f))).setSlot k (.long x))) (hg : ∀ y, g y = if y = k then x else f y) : H1[a]? = some (vp_cell cI (n, .inr (.inl g))) := by
  rw [e, vp_cell_l, vp_cell_l, arrV_store]
  congr 2
  funext q
  unfold updV
  rw [hg]
  by_cases hq : q = k
  · rw [if_pos hq, if_pos hq]
  · rw [if_neg hq, if_neg hq]
theorem m_at_q {H1 : Heap} {a n k : Nat} {cI : ClassId} {f g : Nat → Option Nat} {x : Nat} (e : H1[a]? = some ((vp_cell cI (n, .inr (.inr (.inr (.inr f))))).setSlot k (.ref x))) (hg : ∀ y, g y = if y = k then some x else f y) : H1[a]? = some (vp_cell cI (n, .inr (.inr (.inr (.inr g))))) := by
  rw [e, vp_cell_q, vp_cell_q, arrV_store]
  congr 2
  funext q
  unfold updV
  rw [hg]
  by_cases hq : q = k
  · rw [if_pos hq, if_pos hq]; rfl
  · rw [if_neg hq, if_neg hq]
theorem m_arrin {n : Nat} {cI : ClassId} {f : Nat → Int32} {j : Int32} (h : vp_in j n) : ¬ (j < 0 ∨ (vp_cell cI (n, .inl f)).slots.size ≤ j.toNatClampNeg) := by
  rw [vp_cell_i, arrV_size]; exact h
theorem m_arrinl {n : Nat} {cI : ClassId} {f : Nat → Int64} {j : Int32} (h : vp_in j n) : ¬ (j < 0 ∨ (vp_cell cI (n, .inr (.inl f))).slots.size ≤ j.toNatClampNeg) := by
  rw [vp_cell_l, arrV_size]; exact h
theorem m_x_iast (C : m_Cx S B b cA D mi p R s m args meth c) {pc i n : Nat} {ls : mLs} {r : List Value} {w : mW} {j x : Int32} (hd : decode (m_cod mi) pc = .ok (.iastore, 1)) (hq : w.1[i]? = some (8, n)) (hin : vp_in j n)
    (kk : m_FW B b cA D mi p l e R s m args below meth c (cells + ((m_sI w (i + 1) j.toNatClampNeg x).1.length - w.1.length)) (slots + (m_szs (m_sI w (i + 1) j.toNatClampNeg x) - m_szs w)) Q (pc + 1) ls r (m_sI w (i + 1) j.toNatClampNeg x)) : m_FW B b cA D mi p l e R s m args below meth c cells slots Q pc ls (.int x :: .int j :: .ref (i + 1) :: r) w := by
  obtain ⟨hx, hb, hml, hown, hts, ⟨hK, -⟩, -⟩ := C
  refine m_stw (w' := m_sI w (i + 1) j.toNatClampNeg x) rfl (fun H locs la hW hS k9 => ?_) kk
  have ha := hW.2 i _ (m_wl_get hq)
  rw [m_ce_i] at ha
  refine W.iast hx hb ha ((hK.2 1 _ rfl).1 n (fun j => .int (w.2.1 (i + 1) j))) (fun q => by cases q) (m_arrin hin) rfl rfl hd fun H1 e1 e2 e3 => ?_
  refine k9 H1 _ (m_Wo_set (w' := m_sI w (i + 1) j.toNatClampNeg x) hW hq rfl (fun a ha => m_sI_ne ha) ?_ e2 e3) (hS.put e2 e3 (Nat.le_add_right _ _))
  rw [m_ce_i]
  exact m_at_i rfl e1 (fun y => m_up_eq y)
theorem m_x_cast (C : m_Cx S B b cA D mi p R s m args meth c) {pc i n : Nat} {ls : mLs} {r : List Value} {w : mW} {j x : Int32} (hd : decode (m_cod mi) pc = .ok (.castore, 1)) (hq : w.1[i]? = some (7, n)) (hin : vp_in j n)
    (kk : m_FW B b cA D mi p l e R s m args below meth c (cells + ((m_sI w (i + 1) j.toNatClampNeg (vp_nar .char x)).1.length - w.1.length)) (slots + (m_szs (m_sI w (i + 1) j.toNatClampNeg (vp_nar .char x)) - m_szs w)) Q (pc + 1) ls r (m_sI w (i + 1) j.toNatClampNeg (vp_nar .char x))) : m_FW B b cA D mi p l e R s m args below meth c cells slots Q pc ls (.int x :: .int j :: .ref (i + 1) :: r) w := by
  obtain ⟨hx, hb, hml, hown, hts, ⟨hK, -⟩, -⟩ := C
  refine m_stw (w' := m_sI w (i + 1) j.toNatClampNeg (vp_nar .char x)) rfl (fun H locs la hW hS k9 => ?_) kk
  have ha := hW.2 i _ (m_wl_get hq)
  rw [m_ce_c] at ha
  refine W.cast hx hb ha ((hK.2 0 _ rfl).1 n (fun j => .int (w.2.1 (i + 1) j))) (fun q => by cases q) (m_arrin hin) rfl rfl hd fun H1 e1 e2 e3 => ?_
  refine k9 H1 _ (m_Wo_set (w' := m_sI w (i + 1) j.toNatClampNeg (vp_nar .char x)) hW hq rfl (fun a ha => m_sI_ne ha) ?_ e2 e3) (hS.put e2 e3 (Nat.le_add_right _ _))
  rw [m_ce_c]
  exact m_at_i (x := vp_nar .char x) rfl e1 (fun y => m_up_eq y)
theorem m_x_zast (C : m_Cx S B b cA D mi p R s m args meth c) {pc i n : Nat} {ls : mLs} {r : List Value} {w : mW} {j x : Int32} (hd : decode (m_cod mi) pc = .ok (.bastore, 1)) (hq : w.1[i]? = some (10, n)) (hin : vp_in j n)
    (kk : m_FW B b cA D mi p l e R s m args below meth c (cells + ((m_sI w (i + 1) j.toNatClampNeg (vp_nar .boolean x)).1.length - w.1.length)) (slots + (m_szs (m_sI w (i + 1) j.toNatClampNeg (vp_nar .boolean x)) - m_szs w)) Q (pc + 1) ls r (m_sI w (i + 1) j.toNatClampNeg (vp_nar .boolean x))) : m_FW B b cA D mi p l e R s m args below meth c cells slots Q pc ls (.int x :: .int j :: .ref (i + 1) :: r) w := by
  obtain ⟨hx, hb, hml, hown, hts, ⟨hK, -⟩, -⟩ := C
  refine m_stw (w' := m_sI w (i + 1) j.toNatClampNeg (vp_nar .boolean x)) rfl (fun H locs la hW hS k9 => ?_) kk
  have ha := hW.2 i _ (m_wl_get hq)
  rw [m_ce_z] at ha
  refine W.zast hx hb ha ((hK.2 3 _ rfl).1 n (fun j => .int (w.2.1 (i + 1) j))) (fun q => by cases q) (m_arrin hin) rfl rfl hd fun H1 e1 e2 e3 => ?_
  refine k9 H1 _ (m_Wo_set (w' := m_sI w (i + 1) j.toNatClampNeg (vp_nar .boolean x)) hW hq rfl (fun a ha => m_sI_ne ha) ?_ e2 e3) (hS.put e2 e3 (Nat.le_add_right _ _))
  rw [m_ce_z]
  exact m_at_i (x := vp_nar .boolean x) rfl e1 (fun y => m_up_eq y)
theorem m_x_last (C : m_Cx S B b cA D mi p R s m args meth c) {pc i n : Nat} {ls : mLs} {r : List Value} {w : mW} {j : Int32} {x : Int64} (hd : decode (m_cod mi) pc = .ok (.lastore, 1)) (hq : w.1[i]? = some (9, n)) (hin : vp_in j n)
    (kk : m_FW B b cA D mi p l e R s m args below meth c (cells + ((m_sL w (i + 1) j.toNatClampNeg x).1.length - w.1.length)) (slots + (m_szs (m_sL w (i + 1) j.toNatClampNeg x) - m_szs w)) Q (pc + 1) ls r (m_sL w (i + 1) j.toNatClampNeg x)) : m_FW B b cA D mi p l e R s m args below meth c cells slots Q pc ls (.long x :: .int j :: .ref (i + 1) :: r) w := by
  obtain ⟨hx, hb, hml, hown, hts, ⟨hK, -⟩, -⟩ := C
  refine m_stw (w' := m_sL w (i + 1) j.toNatClampNeg x) rfl (fun H locs la hW hS k9 => ?_) kk
  have ha := hW.2 i _ (m_wl_get hq)
  rw [m_ce_l] at ha
  refine W.last hx hb ha ((hK.2 2 _ rfl).1 n (fun j => .long (w.2.2.1 (i + 1) j))) (fun q => by cases q) (m_arrinl hin) rfl rfl hd fun H1 e1 e2 e3 => ?_
  refine k9 H1 _ (m_Wo_set (w' := m_sL w (i + 1) j.toNatClampNeg x) hW hq rfl (fun a ha => m_sL_ne ha) ?_ e2 e3) (hS.put e2 e3 (Nat.le_add_right _ _))
  rw [m_ce_l]
  exact m_at_l e1 (fun y => m_up_eq y)
theorem m_x_qast (C : m_Cx S B b cA D mi p R s m args meth c) {pc i n v n2 : Nat} {ls : mLs} {r : List Value} {w : mW} {j : Int32} (hd : decode (m_cod mi) pc = .ok (.aastore, 1)) (hq : w.1[i]? = some (11, n)) (hv : w.1[v]? = some (1, n2)) (hin : vp_in j n)
    (kk : m_FW B b cA D mi p l e R s m args below meth c (cells + ((m_sR w (i + 1) j.toNatClampNeg (some (v + 1))).1.length - w.1.length)) (slots + (m_szs (m_sR w (i + 1) j.toNatClampNeg (some (v + 1))) - m_szs w)) Q (pc + 1) ls r (m_sR w (i + 1) j.toNatClampNeg (some (v + 1)))) : m_FW B b cA D mi p l e R s m args below meth c cells slots Q pc ls (.ref (v + 1) :: .int j :: .ref (i + 1) :: r) w := by
  obtain ⟨hx, hb, hml, hown, hts, ⟨hK, -⟩, -⟩ := C
  refine m_stw (w' := m_sR w (i + 1) j.toNatClampNeg (some (v + 1))) rfl (fun H locs la hW hS k9 => ?_) kk
  have ha := hW.2 i _ (m_wl_get hq)
  rw [m_ce_q] at ha
  have hav := hW.2 v _ (m_wl_get hv)
  rw [m_ce_obj (by decide)] at hav
  obtain ⟨r', hr', cellV, g1, g2, g3, -⟩ := hav
  have hcls := (hK.1 1 _ (m_cl_ok (ci := 1) (by decide)).1).2
  obtain ⟨kA, comp, k1, k2, k3, -⟩ := (hK.2 4 _ rfl).2
  have hcomp : comp = D.1 1 := Option.some.inj (k3.symm.trans hcls.1)
  subst hcomp
  obtain ⟨kC, hkC, hkk⟩ := hcls.2
  have h0 : ¬ j < 0 := fun q => hin (Or.inl q)
  have hlt : j.toNatClampNeg < n := Nat.not_le.mp fun q => hin (Or.inr q)
  refine W.aast hx hb ha (fun q h => by cases h) (fun h => by cases h) k1 k2 rfl hkC ⟨h0, by rw [vp_cell_q, arrV_size]; exact hlt⟩ g1 (fun q h => by rw [g3] at h; cases h) (by rw [g2]; exact hkC) (by rw [g2]; exact va_assign (C := m_C 1) ⟨hcls.1, kC, hkC, hkk⟩) rfl rfl hd fun H1 e1 e2 e3 => ?_
  refine k9 H1 _ (m_Wo_set (w' := m_sR w (i + 1) j.toNatClampNeg (some (v + 1))) hW hq rfl (fun a ha => m_sR_ne ha) ?_ e2 e3) (hS.put e2 e3 (Nat.le_add_right _ _))
  rw [m_ce_q]
  refine m_at_q e1 (fun y => ?_)
  show (m_up w.2.2.2 (i + 1) j.toNatClampNeg (some (v + 1)) (i + 1) y).map _ = _
  rw [m_up_eq]
  by_cases hy : y = j.toNatClampNeg
  · rw [if_pos hy, if_pos hy]; rfl
  · rw [if_neg hy, if_neg hy]
theorem m_szs_new (w : mW) (q : Nat × Nat) : m_szs (m_new w q) - m_szs w = (if q.1 < 7 then m_N q.1 else q.2) := by
  simp [m_szs, m_new]
theorem m_len_new (w : mW) (q : Nat × Nat) : (m_new w q).1.length - w.1.length = 1 := by
  simp [m_new]
theorem m_S_new {H0 H H1 : Heap} {locs : List Loc} (hS : va_S (fun q => B ≤ q) H0 H locs) (z : H1.size = H.size + 1) (oq : ∀ x : Nat, x < H.size → H1[x]? = H[x]?) : va_S (fun q => B ≤ q) H0 H1 locs :=
  ⟨Nat.le_trans hS.1 (by omega), fun x h1 h2 => (oq x (Nat.lt_of_lt_of_le h1 hS.1)).trans (hS.2.1 x h1 h2), hS.2.2⟩
theorem m_stn {pc pc' : Nat} {ls : mLs} {r st : List Value} {w : mW} {q : Nat × Nat} (hc : cells + ((m_new w q).1.length - w.1.length) ≤ R.cells) (hs : slots + (m_szs (m_new w q) - m_szs w) ≤ R.slots)
    (h : ∀ (H : Heap) (locs : List Loc) (la : Array Slot), m_Wo B b cA D w H → cells + 1 ≤ R.cells → slots + (if q.1 < 7 then m_N q.1 else q.2) ≤ R.slots → (∀ H1 : Heap, H1.size = H.size + 1 → (∀ x : Nat, x < H.size → H1[x]? = H[x]?) → va_at D vwCl (H.size, m_ce B b cA (m_new w q) q (w.1.length + 1)) H1 → W p l e R s m args below meth c H1 locs (cells + 1) (slots + (if q.1 < 7 then m_N q.1 else q.2)) Q (F0 m pc' la (.ref H.size :: r.map (m_cv B b)))) → W p l e R s m args below meth c H locs cells slots Q (F0 m pc la (st.map (m_cv B b))))
    (k : m_FW B b cA D mi p l e R s m args below meth c (cells + ((m_new w q).1.length - w.1.length)) (slots + (m_szs (m_new w q) - m_szs w)) Q pc' ls (.ref (w.1.length + 1) :: r) (m_new w q)) : m_FW B b cA D mi p l e R s m args below meth c cells slots Q pc ls st w := by
  rw [m_len_new] at k hc
  rw [m_szs_new] at k hs
  intro hg H locs la hW hS hL
  refine h H locs la hW hc hs fun H1 z oq he => ?_
  have h2 := k hg H1 locs la (m_Wo_new hW he z oq) (m_S_new hS z oq) hL
  have e9 : H.size = B + w.1.length := hW.1
  rw [e9]
  exact h2
theorem m_dv {ci : Nat} (h : ci < 7) : ∀ k, k < m_N ci → defaultValue (m_ty ci k) = (match m_tco (m_ty ci k) with | 1 => .long 0 | 2 => .null | _ => .int 0) := by
  match ci, h with
  | 0, _ => decide +kernel
  | 1, _ => decide +kernel
  | 2, _ => decide +kernel
  | 3, _ => decide +kernel
  | 4, _ => decide +kernel
  | 5, _ => decide +kernel
  | 6, _ => decide +kernel
  | ci + 7, h => exact absurd h (by omega)
theorem m_x_new (C : m_Cx S B b cA D mi p R s m args meth c) {k pc ci : Nat} {ls : mLs} {st : List Value} {w : mW} (hd : decode (m_cod mi) pc = .ok (.new k, 3)) (hf : m_clsOk (m_own mi) (k, ci))
    (hc : cells + ((m_new w (ci, m_N ci)).1.length - w.1.length) ≤ R.cells) (hs : slots + (m_szs (m_new w (ci, m_N ci)) - m_szs w) ≤ R.slots)
    (kk : m_FW B b cA D mi p l e R s m args below meth c (cells + ((m_new w (ci, m_N ci)).1.length - w.1.length)) (slots + (m_szs (m_new w (ci, m_N ci)) - m_szs w)) Q (pc + 3) ls (.ref (w.1.length + 1) :: st) (m_new w (ci, m_N ci))) : m_FW B b cA D mi p l e R s m args below meth c cells slots Q pc ls st w := by
  obtain ⟨hx, hb, hml, hown, hts, ⟨hK, -⟩, -⟩ := C
  have hci : ci < 7 := hf.1
  obtain ⟨h1, h2, h3, h4, h5, h6⟩ := m_cl_ok hci
  refine m_stn hc hs (fun H locs la hW hc1 hs1 k9 => ?_) kk
  rw [if_pos (show (ci, m_N ci).1 < 7 from hci)] at hs1 k9
  have hKn := hK.1 ci _ h1
  refine W.newcK hx hb hown (hts _ hf.2) (hts _ h5) (hts _ h6) rfl hd hc1 hs1 hKn.2.1 rfl fun H1 kC hkC e1 z1 o1 => ?_
  refine k9 H1 z1 o1 ?_
  rw [m_ce_obj hci]
  refine ⟨_, h1, (u_born (m_ty ci) hts h2 hKn hkC e1 h3).to (fun j hj => ?_)⟩
  unfold vp_V
  rw [List.getD_eq_getElem?_getD, m_cells_ge (w := w) hj, m_dv hci j hj]
  show _ = m_cv B b (m_fv (m_new w (ci, m_N ci)) (w.1.length + 1) j (m_tco (m_ty ci j)))
  unfold m_fv m_new
  dsimp only
  rw [m_z_eq, m_z_eq, m_z_eq]
  generalize m_tco (m_ty ci j) = t
  rcases t with _ | _ | _ | t <;> rfl
theorem m_x_newa (C : m_Cx S B b cA D mi p R s m args meth c) {pc t k : Nat} {ty : FieldType} {at0 : ArrayType} {n : Int32} {ls : mLs} {r : List Value} {w : mW} (hd : decode (m_cod mi) pc = .ok (.newarray at0, 2)) (hat : Cond.arrayClass (newarray.typeOf at0) ∈ m_gw) (hty : newarray.typeOf at0 = ty) (hk : ¬ k < 7) (htl : (m_tyl cA)[t]? = some (cA k, ty)) (hra : ∀ U : State, ∀ x : ClassId, va_RA U x ty → U.vm.findClass ("[" ++ ty.toString) = some x)
    (hv : ∀ a : Nat, va_at D vwCl (a, m_ce B b cA (m_new w (k, n.toNatClampNeg)) (k, n.toNatClampNeg) (w.1.length + 1)) = fun H1 => H1[a]? = some (arrV (cA k) n.toNatClampNeg (fun _ => defaultValue ty))) (hn : ¬ (n < 0 ∨ 65536 < n.toNatClampNeg)) (hby : componentBytes ty ≤ 8)
    (hc : cells + ((m_new w (k, n.toNatClampNeg)).1.length - w.1.length) ≤ R.cells) (hs : slots + (m_szs (m_new w (k, n.toNatClampNeg)) - m_szs w) ≤ R.slots)
    (kk : m_FW B b cA D mi p l e R s m args below meth c (cells + ((m_new w (k, n.toNatClampNeg)).1.length - w.1.length)) (slots + (m_szs (m_new w (k, n.toNatClampNeg)) - m_szs w)) Q (pc + 2) ls (.ref (w.1.length + 1) :: r) (m_new w (k, n.toNatClampNeg))) : m_FW B b cA D mi p l e R s m args below meth c cells slots Q pc ls (.int n :: r) w := by
  obtain ⟨hx, hb, hml, hown, hts, ⟨hK, -⟩, -⟩ := C
  subst hty
  refine m_stn hc hs (fun H locs la hW hc1 hs1 k9 => ?_) kk
  rw [if_neg (show ¬ (k, n.toNatClampNeg).1 < 7 from hk)] at hs1 k9
  have hbytes : n.toNatClampNeg * componentBytes (newarray.typeOf at0) ≤ 536870912 := by
    have h1 : n.toNatClampNeg ≤ 65536 := by omega
    calc n.toNatClampNeg * componentBytes (newarray.typeOf at0) ≤ 65536 * 8 := Nat.mul_le_mul h1 hby
      _ ≤ 536870912 := Nat.le_of_ble_eq_true rfl
  refine va_newaK hx hb (hts _ hat) rfl hd rfl (fun q => hn (Or.inl q)) rfl hbytes hc1 hs1 rfl fun H1 cA' e1 z1 o1 hAr hNm => ?_
  have hcA : cA' = cA k := Option.some.inj (hNm.symm.trans (hra s _ (hK.2 t _ htl).2))
  subst hcA
  refine k9 H1 z1 o1 ?_
  rw [hv]
  exact e1
theorem m_x_newq (C : m_Cx S B b cA D mi p R s m args meth c) {pc k : Nat} {n : Int32} {ls : mLs} {r : List Value} {w : mW} (hd : decode (m_cod mi) pc = .ok (.anewarray k, 3)) (hf : m_clsOk (m_own mi) (k, 1)) (hn : ¬ (n < 0 ∨ 65536 < n.toNatClampNeg))
    (hc : cells + ((m_new w (11, n.toNatClampNeg)).1.length - w.1.length) ≤ R.cells) (hs : slots + (m_szs (m_new w (11, n.toNatClampNeg)) - m_szs w) ≤ R.slots)
    (kk : m_FW B b cA D mi p l e R s m args below meth c (cells + ((m_new w (11, n.toNatClampNeg)).1.length - w.1.length)) (slots + (m_szs (m_new w (11, n.toNatClampNeg)) - m_szs w)) Q (pc + 3) ls (.ref (w.1.length + 1) :: r) (m_new w (11, n.toNatClampNeg))) : m_FW B b cA D mi p l e R s m args below meth c cells slots Q pc ls (.int n :: r) w := by
  obtain ⟨hx, hb, hml, hown, hts, ⟨hK, -, hAO, -⟩, -⟩ := C
  refine m_stn hc hs (fun H locs la hW hc1 hs1 k9 => ?_) kk
  rw [if_neg (show ¬ (11, n.toNatClampNeg).1 < 7 from (by decide : ¬ (11 : Nat) < 7))] at hs1 k9
  have hbytes : n.toNatClampNeg * 4 ≤ 536870912 := by
    have h1 : n.toNatClampNeg ≤ 65536 := by omega
    calc n.toNatClampNeg * 4 ≤ 65536 * 4 := Nat.mul_le_mul_right 4 h1
      _ ≤ 536870912 := Nat.le_of_ble_eq_true rfl
  refine W.anew (C := RX1) hx hb hown (hts _ hf.2) (va_AO.use hAO) rfl hd rfl (fun q => hn (Or.inl q)) hbytes hc1 hs1 fun cA' kA comp f1 f2 f3 f4 => ?_
  have hcA : cA' = cA 11 := by
    obtain ⟨_, _, -, -, -, h4⟩ := (hK.2 4 _ rfl).2
    exact Option.some.inj (f1.symm.trans h4)
  subst hcA
  refine k9 _ (by rw [Array.size_push]) (fun x hx => by rw [Array.getElem?_push, if_neg (Nat.ne_of_lt hx)]) ?_
  have e9 : m_ce B b cA (m_new w (11, n.toNatClampNeg)) (11, n.toNatClampNeg) (w.1.length + 1) = .inl (cA 11, n.toNatClampNeg, .inr (.inr (.inr (.inr fun _ => none)))) := by
    rw [m_ce_q]
    simp [m_new, m_z]
  rw [e9]
  show (H.push _)[H.size]? = some (vp_cell _ _)
  rw [Array.getElem?_push_size, vp_cell_q]
  show some _ = some (arrV (cA 11) n.toNatClampNeg (fun _ => Value.null))
  rw [← arrV_new]
end ARR
end
section
/-! the step theorem -/
section EXOK
variable {S : mS} {B b : Nat} {cA : Nat → ClassId} {D : va_G} {mi : Nat} {p : Program} {l : Launch} {e : Env} {R : Room} {s : State} {m : MethodId} {args : Array Value} {below : List Frame} {meth : Method} {c : Code} {cells slots : Nat} {Q : State → Prop}
theorem m_zfI {w : mW} {q : Nat × Nat} : (m_new w q).2.1 (w.1.length + 1) = fun _ => 0 := by
  funext y
  simp [m_new, m_z]
theorem m_zfL {w : mW} {q : Nat × Nat} : (m_new w q).2.2.1 (w.1.length + 1) = fun _ => 0 := by
  funext y
  simp [m_new, m_z]
set_option maxHeartbeats 4000000 in
set_option maxRecDepth 100000 in
theorem m_exe_ok {pc len : Nat} {i : Instr} {ls ls' : mLs} {st st' : List Value} {w w' : mW} {g : Option Bool} {pc' : Nat} (C : m_Cx S B b cA D mi p R s m args meth c) (hd : decode (m_cod mi) pc = .ok (i, len)) (hl : m_lenOk i len = true) (he : m_exe S mi i pc ls st w = some (g, pc', ls', st', w')) (hg : g ≠ some false)
    (hc : cells + (w'.1.length - w.1.length) ≤ R.cells) (hs : slots + (m_szs w' - m_szs w) ≤ R.slots)
    (k : m_FW B b cA D mi p l e R s m args below meth c (cells + (w'.1.length - w.1.length)) (slots + (m_szs w' - m_szs w)) Q pc' ls' st' w') : m_FW B b cA D mi p l e R s m args below meth c cells slots Q pc ls st w := by
  have hx := C.1
  have hb := C.2.1
  have hml := C.2.2.1
  have hown := C.2.2.2.1
  have hts := C.2.2.2.2.1
  have hK := C.2.2.2.2.2.1.1
  have hX := C.2.2.2.2.2.1.2.2.2.1
  have hbB := C.2.2.2.2.2.1.2.2.2.2.1
  have hBs := C.2.2.2.2.2.1.2.2.2.2.2
  have hrF := C.2.2.2.2.2.2.2.1
  have hrL := C.2.2.2.2.2.2.2.2
  have hbA : ¬ (fun q : Nat => B ≤ q) b := Nat.not_le.mpr hbB
  have hbH : b < s.heap.size := Nat.lt_of_lt_of_le hbB hBs
  cases i with
  | iadd =>
    obtain rfl := m_lk (n := 1) hl rfl (by decide)
    obtain ⟨x, y, r, rfl, h⟩ := m_i2_inv he
    cases h
    exact m_stp (fun H locs la hW hS hL k9 => lv_iadd hx hb hd k9) k
  | isub =>
    obtain rfl := m_lk (n := 1) hl rfl (by decide)
    obtain ⟨x, y, r, rfl, h⟩ := m_i2_inv he
    cases h
    exact m_stp (fun H locs la hW hS hL k9 => lv_isub hx hb hd k9) k
  | imul =>
    obtain rfl := m_lk (n := 1) hl rfl (by decide)
    obtain ⟨x, y, r, rfl, h⟩ := m_i2_inv he
    cases h
    exact m_stp (fun H locs la hW hS hL k9 => lv_imul hx hb hd k9) k
  | iand =>
    obtain rfl := m_lk (n := 1) hl rfl (by decide)
    obtain ⟨x, y, r, rfl, h⟩ := m_i2_inv he
    cases h
    exact m_stp (fun H locs la hW hS hL k9 => lv_iand hx hb hd k9) k
  | ior =>
    obtain rfl := m_lk (n := 1) hl rfl (by decide)
    obtain ⟨x, y, r, rfl, h⟩ := m_i2_inv he
    cases h
    exact m_stp (fun H locs la hW hS hL k9 => lv_ior hx hb hd k9) k
  | ishl =>
    obtain rfl := m_lk (n := 1) hl rfl (by decide)
    obtain ⟨x, y, r, rfl, h⟩ := m_i2_inv he
    cases h
    exact m_stp (fun H locs la hW hS hL k9 => lv_ishl hx hb hd k9) k
  | idiv =>
    obtain rfl := m_lk (n := 1) hl rfl (by decide)
    obtain ⟨x, y, r, rfl, h⟩ := m_i2_inv he
    cases h
    have hy : ¬ y = 0 := by
      intro h0
      apply hg
      rw [h0]
      rfl
    exact m_stp (fun H locs la hW hS hL k9 => lv_idiv hx hb hd hy k9) k
  | irem =>
    obtain rfl := m_lk (n := 1) hl rfl (by decide)
    obtain ⟨x, y, r, rfl, h⟩ := m_i2_inv he
    cases h
    have hy : ¬ y = 0 := by
      intro h0
      apply hg
      rw [h0]
      rfl
    exact m_stp (fun H locs la hW hS hL k9 => lv_irem hx hb hd hy k9) k
  | ladd =>
    obtain rfl := m_lk (n := 1) hl rfl (by decide)
    obtain ⟨x, y, r, rfl, h⟩ := m_l2_inv he
    cases h
    exact m_stp (fun H locs la hW hS hL k9 => lv_ladd hx hb hd k9) k
  | lsub =>
    obtain rfl := m_lk (n := 1) hl rfl (by decide)
    obtain ⟨x, y, r, rfl, h⟩ := m_l2_inv he
    cases h
    exact m_stp (fun H locs la hW hS hL k9 => lv_lsub hx hb hd k9) k
  | land =>
    obtain rfl := m_lk (n := 1) hl rfl (by decide)
    obtain ⟨x, y, r, rfl, h⟩ := m_l2_inv he
    cases h
    exact m_stp (fun H locs la hW hS hL k9 => lv_land hx hb hd k9) k
  | lor =>
    obtain rfl := m_lk (n := 1) hl rfl (by decide)
    obtain ⟨x, y, r, rfl, h⟩ := m_l2_inv he
    cases h
    exact m_stp (fun H locs la hW hS hL k9 => lv_lor hx hb hd k9) k
  | lxor =>
    obtain rfl := m_lk (n := 1) hl rfl (by decide)
    obtain ⟨x, y, r, rfl, h⟩ := m_l2_inv he
    cases h
    exact m_stp (fun H locs la hW hS hL k9 => lv_lxor hx hb hd k9) k
  | lcmp =>
    obtain rfl := m_lk (n := 1) hl rfl (by decide)
    obtain ⟨x, y, r, rfl, h⟩ := m_l2_inv he
    cases h
    exact m_stp (fun H locs la hW hS hL k9 => W.lcmp hx hb hd k9) k
  | lshl =>
    obtain rfl := m_lk (n := 1) hl rfl (by decide)
    obtain ⟨x, y, r, rfl, h⟩ := m_li_inv he
    cases h
    exact m_stp (fun H locs la hW hS hL k9 => lv_lshl hx hb hd rfl k9) k
  | lushr =>
    obtain rfl := m_lk (n := 1) hl rfl (by decide)
    obtain ⟨x, y, r, rfl, h⟩ := m_li_inv he
    cases h
    exact m_stp (fun H locs la hW hS hL k9 => lv_lushr hx hb hd rfl k9) k
  | i2c =>
    obtain rfl := m_lk (n := 1) hl rfl (by decide)
    obtain ⟨x, r, rfl, h⟩ := m_i1_inv he
    cases h
    exact m_stp (fun H locs la hW hS hL k9 => lv_i2c hx hb hd rfl k9) k
  | l2i =>
    obtain rfl := m_lk (n := 1) hl rfl (by decide)
    obtain ⟨x, r, rfl, h⟩ := m_l1_inv he
    cases h
    exact m_stp (fun H locs la hW hS hL k9 => lv_l2i hx hb hd rfl k9) k
  | iconst n =>
    obtain rfl := m_lk (n := 1) hl rfl (by decide)
    cases he
    exact m_stp (fun H locs la hW hS hL k9 => lv_iconst hx hb hd rfl k9) k
  | bipush n =>
    obtain rfl := m_lk (n := 2) hl rfl (by decide)
    cases he
    exact m_stp (fun H locs la hW hS hL k9 => lv_bipush hx hb hd rfl k9) k
  | sipush n =>
    obtain rfl := m_lk (n := 3) hl rfl (by decide)
    cases he
    exact m_stp (fun H locs la hW hS hL k9 => lv_sipush hx hb hd rfl k9) k
  | lconst n =>
    obtain rfl := m_lk (n := 1) hl rfl (by decide)
    cases he
    exact m_stp (fun H locs la hW hS hL k9 => lv_lconst hx hb hd rfl k9) k
  | ldc i0 =>
    obtain rfl := m_lk (n := 2) hl rfl (by decide)
    have he0 := he
    unfold m_exe at he0
    dsimp only at he0
    cases hf : m_fnd (m_csts (m_owi mi)) i0 with
    | none => rw [hf] at he0; cases he0
    | some x =>
      rw [hf] at he0
      cases he0
      have hf2 := m_csts_ok (m_owi mi) _ (m_fnd_mem hf)
      exact m_stp (fun H locs la hW hS hL k9 => lv_ldc hx hb hown (hts _ hf2) hd k9) k
  | ldc2_w i0 =>
    obtain rfl := m_lk (n := 3) hl rfl (by decide)
    have he0 := he
    unfold m_exe at he0
    dsimp only at he0
    cases hf : m_fnd (m_lcss (m_owi mi)) i0 with
    | none => rw [hf] at he0; cases he0
    | some x =>
      rw [hf] at he0
      cases he0
      have hf2 := m_lcss_ok (m_owi mi) _ (m_fnd_mem hf)
      exact m_stp (fun H locs la hW hS hL k9 => lv_ldc2 hx hb hown (hts _ hf2) hd k9) k
  | iload_n i0 =>
    obtain rfl := m_lk (n := 1) hl rfl (by decide)
    obtain ⟨v, hv, h, hcase⟩ := m_val_inv he
    cases h
    rcases hcase with ⟨h0, y, rfl⟩ | ⟨h0, y, rfl⟩ | ⟨h0, y, rfl⟩
    · exact m_stp (fun H locs la hW hS hL k9 => lv_iload_n hx hb hd rfl (m_has_at hL hv) k9) k
    · exact absurd h0 (by decide)
    · exact absurd h0 (by decide)
  | lload_n i0 =>
    obtain rfl := m_lk (n := 1) hl rfl (by decide)
    obtain ⟨v, hv, h, hcase⟩ := m_val_inv he
    cases h
    rcases hcase with ⟨h0, y, rfl⟩ | ⟨h0, y, rfl⟩ | ⟨h0, y, rfl⟩
    · exact absurd h0 (by decide)
    · exact m_stp (fun H locs la hW hS hL k9 => lv_lload_n hx hb hd rfl (m_has_at hL hv) k9) k
    · exact absurd h0 (by decide)
  | aload_n i0 =>
    obtain rfl := m_lk (n := 1) hl rfl (by decide)
    obtain ⟨v, hv, h, hcase⟩ := m_val_inv he
    cases h
    rcases hcase with ⟨h0, y, rfl⟩ | ⟨h0, y, rfl⟩ | ⟨h0, y, rfl⟩
    · exact absurd h0 (by decide)
    · exact absurd h0 (by decide)
    · exact m_stp (fun H locs la hW hS hL k9 => lv_aload_n hx hb hd rfl (m_has_at hL hv) k9) k
  | iload i0 =>
    obtain rfl := m_lk (n := 2) hl rfl (by decide)
    obtain ⟨v, hv, h, hcase⟩ := m_val_inv he
    cases h
    rcases hcase with ⟨h0, y, rfl⟩ | ⟨h0, y, rfl⟩ | ⟨h0, y, rfl⟩
    · exact m_stp (fun H locs la hW hS hL k9 => lv_iload hx hb hd (m_has_at hL hv) k9) k
    · exact absurd h0 (by decide)
    · exact absurd h0 (by decide)
  | lload i0 =>
    obtain rfl := m_lk (n := 2) hl rfl (by decide)
    obtain ⟨v, hv, h, hcase⟩ := m_val_inv he
    cases h
    rcases hcase with ⟨h0, y, rfl⟩ | ⟨h0, y, rfl⟩ | ⟨h0, y, rfl⟩
    · exact absurd h0 (by decide)
    · exact m_stp (fun H locs la hW hS hL k9 => lv_lload hx hb hd (m_has_at hL hv) k9) k
    · exact absurd h0 (by decide)
  | istore_n i0 =>
    obtain rfl := m_lk (n := 1) hl rfl (by decide)
    obtain ⟨x, r, rfl, h⟩ := m_i1_inv he
    obtain ⟨h1, h2, h3⟩ := m_put_inv h
    cases h3
    exact m_stl (v := .int x) rfl h2 (fun H locs la hL k9 => lv_istore_n hx hb hd rfl hL h1 rfl k9) k
  | istore i0 =>
    obtain rfl := m_lk (n := 2) hl rfl (by decide)
    obtain ⟨x, r, rfl, h⟩ := m_i1_inv he
    obtain ⟨h1, h2, h3⟩ := m_put_inv h
    cases h3
    exact m_stl (v := .int x) rfl h2 (fun H locs la hL k9 => lv_istore hx hb hd hL h1 rfl k9) k
  | astore_n i0 =>
    obtain rfl := m_lk (n := 1) hl rfl (by decide)
    obtain ⟨x, r, rfl, h⟩ := m_a1_inv he
    obtain ⟨h1, h2, h3⟩ := m_put_inv h
    cases h3
    exact m_stl (v := .ref x) rfl h2 (fun H locs la hL k9 => lv_astore_n hx hb hd rfl hL h1 rfl k9) k
  | lstore_n i0 =>
    obtain rfl := m_lk (n := 1) hl rfl (by decide)
    obtain ⟨x, r, rfl, h⟩ := m_l1_inv he
    obtain ⟨h1, h4, h2, h3⟩ := m_put2_inv h
    cases h3
    exact m_stl2 (v := .long x) h4 h2 (fun H locs la hL k9 => lv_lstore_n hx hb hd rfl hL h1 rfl k9) k
  | lstore i0 =>
    obtain rfl := m_lk (n := 2) hl rfl (by decide)
    obtain ⟨x, r, rfl, h⟩ := m_l1_inv he
    obtain ⟨h1, h4, h2, h3⟩ := m_put2_inv h
    cases h3
    exact m_stl2 (v := .long x) h4 h2 (fun H locs la hL k9 => lv_lstore hx hb hd hL h1 rfl k9) k
  | iinc i0 n =>
    obtain rfl := m_lk (n := 3) hl rfl (by decide)
    have he0 := he
    unfold m_exe at he0
    dsimp only at he0
    split at he0
    next x hv =>
      obtain ⟨h1, h2, h3⟩ := m_put_inv he0
      cases h3
      refine m_stl rfl h2 (fun H locs la hL k9 => ?_) k
      obtain ⟨q0, hq0⟩ := List.getElem?_of_mem (m_tl_mem.mpr ⟨_, hv, rfl⟩ : (i0, m_cv B b (.int x)) ∈ m_tl B b ls)
      exact lv_iinc hx hb hd hL (k := q0) hq0 rfl h1 rfl k9
    next => cases he0
  | dup =>
    obtain rfl := m_lk (n := 1) hl rfl (by decide)
    have he0 := he
    unfold m_exe at he0
    dsimp only at he0
    split at he0
    next v r =>
      split at he0
      next hv =>
        cases he0
        exact m_stp (fun H locs la hW hS hL k9 => lv_dup hx hb hd (by rw [m_cv_cat]; exact Nat.eq_of_beq_eq_true hv) k9) k
      next => cases he0
    next => cases he0
  | dup2 =>
    obtain rfl := m_lk (n := 1) hl rfl (by decide)
    have he0 := he
    unfold m_exe at he0
    dsimp only at he0
    split at he0
    next v u r =>
      split at he0
      next hv =>
        cases he0
        obtain ⟨h1, h2⟩ := Bool.and_eq_true_iff.mp hv
        exact m_stp (fun H locs la hW hS hL k9 => lv_dup2_11 hx hb hd (by rw [m_cv_cat]; exact Nat.eq_of_beq_eq_true h1) (by rw [m_cv_cat]; exact Nat.eq_of_beq_eq_true h2) k9) k
      next => cases he0
    next => cases he0
  | ifCond cc off =>
    obtain rfl := m_lk (n := 3) hl rfl (by decide)
    obtain ⟨x, r, rfl, h⟩ := m_i1_inv he
    cases ht : m_tgt pc off with
    | none => simp only [ht] at h; cases h
    | some t =>
      simp only [ht] at h
      cases h
      have ht2 := m_tgt_ok ht
      refine m_stp (fun H locs la hW hS hL k9 => ?_) k
      cases cc with
      | eq => exact lv_if_eq hx hb hd ht2 (fun q => by rw [show m_c0 .eq x t (pc + 3) = t from if_pos q] at k9; exact k9) (fun q => by rw [show m_c0 .eq x t (pc + 3) = pc + 3 from if_neg q] at k9; exact k9)
      | ne => exact lv_if_ne hx hb hd ht2 (fun q => by rw [show m_c0 .ne x t (pc + 3) = t from if_neg q] at k9; exact k9) (fun q => by rw [show m_c0 .ne x t (pc + 3) = pc + 3 from if_pos q] at k9; exact k9)
      | lt => exact lv_if_lt hx hb hd ht2 (fun q => by rw [show m_c0 .lt x t (pc + 3) = t from if_pos q] at k9; exact k9) (fun q => by rw [show m_c0 .lt x t (pc + 3) = pc + 3 from if_neg q] at k9; exact k9)
      | ge => exact lv_if_ge hx hb hd ht2 (fun q => by rw [show m_c0 .ge x t (pc + 3) = t from if_pos q] at k9; exact k9) (fun q => by rw [show m_c0 .ge x t (pc + 3) = pc + 3 from if_neg q] at k9; exact k9)
      | gt => exact lv_if_gt hx hb hd ht2 (fun q => by rw [show m_c0 .gt x t (pc + 3) = t from if_pos q] at k9; exact k9) (fun q => by rw [show m_c0 .gt x t (pc + 3) = pc + 3 from if_neg q] at k9; exact k9)
      | le => exact lv_if_le hx hb hd ht2 (fun q => by rw [show m_c0 .le x t (pc + 3) = t from if_pos q] at k9; exact k9) (fun q => by rw [show m_c0 .le x t (pc + 3) = pc + 3 from if_neg q] at k9; exact k9)
  | if_icmp cc off =>
    obtain rfl := m_lk (n := 3) hl rfl (by decide)
    obtain ⟨x, y, r, rfl, h⟩ := m_i2_inv he
    cases ht : m_tgt pc off with
    | none => simp only [ht] at h; cases h
    | some t =>
      simp only [ht] at h
      cases h
      have ht2 := m_tgt_ok ht
      refine m_stp (fun H locs la hW hS hL k9 => ?_) k
      cases cc with
      | eq => exact lv_icmp_eq hx hb hd ht2 (fun q => by rw [show m_c2 .eq x y t (pc + 3) = t from if_pos q] at k9; exact k9) (fun q => by rw [show m_c2 .eq x y t (pc + 3) = pc + 3 from if_neg q] at k9; exact k9)
      | ne => exact lv_icmp_ne hx hb hd ht2 (fun q => by rw [show m_c2 .ne x y t (pc + 3) = t from if_neg q] at k9; exact k9) (fun q => by rw [show m_c2 .ne x y t (pc + 3) = pc + 3 from if_pos q] at k9; exact k9)
      | lt => exact lv_icmp_lt hx hb hd ht2 (fun q => by rw [show m_c2 .lt x y t (pc + 3) = t from if_pos q] at k9; exact k9) (fun q => by rw [show m_c2 .lt x y t (pc + 3) = pc + 3 from if_neg q] at k9; exact k9)
      | ge => exact lv_icmp_ge hx hb hd ht2 (fun q => by rw [show m_c2 .ge x y t (pc + 3) = t from if_pos q] at k9; exact k9) (fun q => by rw [show m_c2 .ge x y t (pc + 3) = pc + 3 from if_neg q] at k9; exact k9)
      | gt => exact lv_icmp_gt hx hb hd ht2 (fun q => by rw [show m_c2 .gt x y t (pc + 3) = t from if_pos q] at k9; exact k9) (fun q => by rw [show m_c2 .gt x y t (pc + 3) = pc + 3 from if_neg q] at k9; exact k9)
      | le => exact lv_icmp_le hx hb hd ht2 (fun q => by rw [show m_c2 .le x y t (pc + 3) = t from if_pos q] at k9; exact k9) (fun q => by rw [show m_c2 .le x y t (pc + 3) = pc + 3 from if_neg q] at k9; exact k9)
  | goto off =>
    obtain rfl := m_lk (n := 3) hl rfl (by decide)
    have he0 := he
    unfold m_exe at he0
    dsimp only at he0
    cases ht : m_tgt pc off with
    | none => rw [ht] at he0; cases he0
    | some t =>
      rw [ht] at he0
      cases he0
      exact m_stp (fun H locs la hW hS hL k9 => lv_goto hx hb hd (m_tgt_ok ht) k9) k
  | tableswitch d lo hi offs =>
    obtain ⟨x, r, rfl, h⟩ := m_i1_inv he
    split at h
    next hk =>
      cases h
      simp only [Bool.and_eq_true, decide_eq_true_eq] at hk
      obtain ⟨⟨⟨h1, h2⟩, h3⟩, h4⟩ := hk
      obtain ⟨t1, t2⟩ := m_tsw_ok pc x d offs.toList lo h2 (by omega)
      refine m_stp (fun H locs la hW hS hL k9 => ?_) k
      by_cases q1 : x.toInt < lo ∨ hi < x.toInt
      · rw [t1 (by omega)] at k9
        exact lv_tableOut hx hb hd q1 (m_offs_ok h1 List.mem_cons_self) k9
      · have q2 : (x.toInt - lo).toNat < offs.toList.length := by omega
        have q3 := List.getElem?_eq_getElem q2
        rw [t2 _ (by omega) q3] at k9
        exact lv_tableIn hx hb hd (by omega) (by omega) (by rw [← Array.getElem?_toList]; exact q3) (m_offs_ok h1 (List.mem_cons_of_mem _ (List.mem_of_getElem? q3))) k9
    next => cases h
  | lookupswitch d ps =>
    obtain ⟨x, r, rfl, h⟩ := m_i1_inv he
    split at h
    next hk =>
      cases h
      obtain ⟨hk1, h3⟩ := Bool.and_eq_true_iff.mp hk
      obtain ⟨h1, h2⟩ := Bool.and_eq_true_iff.mp hk1
      refine m_stp (fun H locs la hW hS hL k9 => ?_) k
      rw [m_lsw_ok pc x d ps.toList (fun q hq => of_decide_eq_true (List.all_eq_true.mp h2 q hq))] at k9
      exact lv_lookup hx hb hd h3 rfl (m_offs_ok h1 (m_offmem d x.toInt ps.toList)) k9
    next => cases h
  | getfield i0 =>
    obtain rfl := m_lk (n := 3) hl rfl (by decide)
    have he0 : m_getf mi i0 pc ls st w = some (g, pc', ls', st', w') := he
    obtain ⟨a, r, rfl, h⟩ := m_a1_inv he0
    split at h
    next ci j t hf =>
      split at h
      next hq =>
        cases h
        have hf2 : m_fldOk (m_own mi) (i0, ci, j, t) := m_flds_ok (m_owi mi) _ (m_fnd_mem hf)
        obtain ⟨i, n, rfl, hq1, -⟩ := m_sh_get hq (by have := hf2.1; dsimp only at this; omega)
        exact m_x_get C hd hq1 hf2 k
      next => cases h
    next => cases h
  | putfield i0 =>
    obtain rfl := m_lk (n := 3) hl rfl (by decide)
    exact m_x_putf C hd he hg k
  | arraylength =>
    obtain rfl := m_lk (n := 1) hl rfl (by decide)
    obtain ⟨a, r, rfl, h⟩ := m_a1_inv he
    cases a with
    | succ a => cases h
    | zero =>
      cases h
      exact m_stp (fun H locs la hW hS hL k9 => va_slen hx hb hX hbH hbA hS hd k9) k
  | iaload =>
    obtain rfl := m_lk (n := 1) hl rfl (by decide)
    obtain ⟨a, j, r, rfl, h⟩ := m_ai_inv he
    cases a with
    | zero =>
      cases h
      exact m_stp (fun H locs la hW hS hL k9 => va_sld hx hb hX hbH hbA hS (m_okin2 hg) hd k9) k
    | succ a =>
      obtain ⟨hq, h⟩ := m_kd_inv h
      cases h
      obtain ⟨i, n, e1, hq1, e2⟩ := m_sh_get hq (by decide)
      cases e1
      rw [e2] at hg
      exact m_stp (fun H locs la hW hS hL k9 => va_iald hx hb hK hW.2 a 1 (by rw [m_wl_get hq1, m_ce_i]; rfl) rfl (m_okin2 hg) hd k9) k
  | caload =>
    obtain rfl := m_lk (n := 1) hl rfl (by decide)
    obtain ⟨a, j, r, rfl, h⟩ := m_ai_inv he
    obtain ⟨hq, h⟩ := m_kd_inv h
    cases h
    obtain ⟨i, n, rfl, hq1, e2⟩ := m_sh_get hq (by decide)
    rw [e2] at hg
    exact m_stp (fun H locs la hW hS hL k9 => va_cald hx hb hK hW.2 i 0 (by rw [m_wl_get hq1, m_ce_c]; rfl) rfl (m_okin2 hg) hd k9) k
  | baload =>
    obtain rfl := m_lk (n := 1) hl rfl (by decide)
    obtain ⟨a, j, r, rfl, h⟩ := m_ai_inv he
    obtain ⟨hq, h⟩ := m_kd_inv h
    cases h
    obtain ⟨i, n, rfl, hq1, e2⟩ := m_sh_get hq (by decide)
    rw [e2] at hg
    exact m_stp (fun H locs la hW hS hL k9 => va_zald hx hb hK hW.2 i 3 (by rw [m_wl_get hq1, m_ce_z]; rfl) rfl (m_okin2 hg) hd k9) k
  | laload =>
    obtain rfl := m_lk (n := 1) hl rfl (by decide)
    obtain ⟨a, j, r, rfl, h⟩ := m_ai_inv he
    obtain ⟨hq, h⟩ := m_kd_inv h
    cases h
    obtain ⟨i, n, rfl, hq1, e2⟩ := m_sh_get hq (by decide)
    rw [e2] at hg
    exact m_stp (fun H locs la hW hS hL k9 => va_lald hx hb hK hW.2 i 2 (by rw [m_wl_get hq1, m_ce_l]; rfl) rfl (m_okin2 hg) hd k9) k
  | aaload =>
    obtain rfl := m_lk (n := 1) hl rfl (by decide)
    obtain ⟨a, j, r, rfl, h⟩ := m_ai_inv he
    obtain ⟨hq, h⟩ := m_kd_inv h
    cases h
    obtain ⟨i, n, rfl, hq1, e2⟩ := m_sh_get hq (by decide)
    rw [e2] at hg
    refine m_stp (fun H locs la hW hS hL k9 => ?_) k
    rw [List.map_cons, m_cv_rf] at k9
    exact va_aldq (f := fun j => (w.2.2.2 (i + 1) j).map (m_ad B b)) hx hb hK hW.2 i 4 (by rw [m_wl_get hq1, m_ce_q]; rfl) rfl (m_okin2 hg) hd k9
  | iastore =>
    obtain rfl := m_lk (n := 1) hl rfl (by decide)
    obtain ⟨a, j, x, r, rfl, h⟩ := m_aii_inv he
    obtain ⟨hq, h⟩ := m_kd_inv h
    cases h
    obtain ⟨i, n, rfl, hq1, e2⟩ := m_sh_get hq (by decide)
    rw [e2] at hg
    exact m_x_iast C hd hq1 (m_okin2 hg) k
  | castore =>
    obtain rfl := m_lk (n := 1) hl rfl (by decide)
    obtain ⟨a, j, x, r, rfl, h⟩ := m_aii_inv he
    obtain ⟨hq, h⟩ := m_kd_inv h
    cases h
    obtain ⟨i, n, rfl, hq1, e2⟩ := m_sh_get hq (by decide)
    rw [e2] at hg
    exact m_x_cast C hd hq1 (m_okin2 hg) k
  | bastore =>
    obtain rfl := m_lk (n := 1) hl rfl (by decide)
    obtain ⟨a, j, x, r, rfl, h⟩ := m_aii_inv he
    obtain ⟨hq, h⟩ := m_kd_inv h
    cases h
    obtain ⟨i, n, rfl, hq1, e2⟩ := m_sh_get hq (by decide)
    rw [e2] at hg
    exact m_x_zast C hd hq1 (m_okin2 hg) k
  | lastore =>
    obtain rfl := m_lk (n := 1) hl rfl (by decide)
    obtain ⟨a, j, x, r, rfl, h⟩ := m_ail_inv he
    obtain ⟨hq, h⟩ := m_kd_inv h
    cases h
    obtain ⟨i, n, rfl, hq1, e2⟩ := m_sh_get hq (by decide)
    rw [e2] at hg
    exact m_x_last C hd hq1 (m_okin2 hg) k
  | aastore =>
    obtain rfl := m_lk (n := 1) hl rfl (by decide)
    obtain ⟨a, j, x, r, rfl, h⟩ := m_aia_inv he
    obtain ⟨hq, h⟩ := m_kd_inv h
    obtain ⟨hv, h⟩ := m_kd_inv h
    cases h
    obtain ⟨i, n, rfl, hq1, e2⟩ := m_sh_get hq (by decide)
    obtain ⟨i2, n2, rfl, hq2, -⟩ := m_sh_get hv (by decide)
    rw [e2] at hg
    exact m_x_qast C hd hq1 hq2 (m_okin2 hg) k
  | new i0 =>
    obtain rfl := m_lk (n := 3) hl rfl (by decide)
    have he0 := he
    unfold m_exe at he0
    dsimp only at he0
    cases hf : m_fnd (m_clss (m_owi mi)) i0 with
    | none => rw [hf] at he0; cases he0
    | some ci =>
      rw [hf] at he0
      cases he0
      exact m_x_new C hd (m_clss_ok (m_owi mi) _ (m_fnd_mem hf)) hc hs k
  | newarray t =>
    obtain rfl := m_lk (n := 2) hl rfl (by decide)
    obtain ⟨n, r, rfl, h⟩ := m_i1_inv he
    cases t with
    | char =>
      unfold m_alen at h
      dsimp only at h
      split at h
      next => cases h
      next hn =>
        cases h
        exact m_x_newa (at0 := .char) (ty := .char) (k := 7) (t := 0) C hd m_ac_char rfl (by decide) rfl (fun U x hr => hr) (fun a => by rw [m_ce_c, m_zfI]; rfl) hn (by decide) hc hs k
    | int =>
      unfold m_alen at h
      dsimp only at h
      split at h
      next => cases h
      next hn =>
        cases h
        exact m_x_newa (at0 := .int) (ty := .int) (k := 8) (t := 1) C hd m_ac_int rfl (by decide) rfl (fun U x hr => hr) (fun a => by rw [m_ce_i, m_zfI]; rfl) hn (by decide) hc hs k
    | long =>
      unfold m_alen at h
      dsimp only at h
      split at h
      next => cases h
      next hn =>
        cases h
        exact m_x_newa (at0 := .long) (ty := .long) (k := 9) (t := 2) C hd m_ac_long rfl (by decide) rfl (fun U x hr => hr) (fun a => by rw [m_ce_l, m_zfL]; rfl) hn (by decide) hc hs k
    | boolean =>
      unfold m_alen at h
      dsimp only at h
      split at h
      next => cases h
      next hn =>
        cases h
        exact m_x_newa (at0 := .boolean) (ty := .boolean) (k := 10) (t := 3) C hd m_ac_boolean rfl (by decide) rfl (fun U x hr => hr) (fun a => by rw [m_ce_z, m_zfI]; rfl) hn (by decide) hc hs k
    | _ => cases h
  | anewarray i0 =>
    obtain rfl := m_lk (n := 3) hl rfl (by decide)
    obtain ⟨n, r, rfl, h⟩ := m_i1_inv he
    split at h
    next hf =>
      split at h
      next => cases h
      next hn =>
        cases h
        exact m_x_newq C hd (m_clss_ok (m_owi mi) _ (m_fnd_mem hf)) hn hc hs k
    next => cases h
  | invokespecial i0 =>
    obtain rfl := m_lk (n := 3) hl rfl (by decide)
    have he0 := he
    unfold m_exe at he0
    dsimp only at he0
    split at he0
    next hq =>
      obtain ⟨hq1, h3⟩ := Bool.and_eq_true_iff.mp hq
      obtain ⟨h1, h2⟩ := Bool.and_eq_true_iff.mp hq1
      obtain ⟨a, r, rfl, h⟩ := m_a1_inv he0
      split at h
      next h4 =>
        cases h
        have h1 := Nat.eq_of_beq_eq_true h1
        have h2 : 1 ≤ i0 := Nat.le_of_ble_eq_true h2
        have h3 : 1 ≤ m_rF mi := Nat.le_of_ble_eq_true h3
        have h4 := Nat.le_of_ble_eq_true h4
        subst h1
        have hlk := m_oi_ok (m_owi mi) (by omega)
        refine m_stp (fun H locs la hW hS hL k9 => ?_) k
        refine W.objInit hx hb hown (hts _ hlk) (hts _ m_oi_in) (hts _ m_oi_code) rfl (by rw [hml]; exact hL.1) rfl hd (by omega) ?_ k9
        rw [m_cs_cv]
        show 2 * 0 + m_cs _ + 12 ≤ R.locals
        omega
      next => cases h
    next => cases he0
  | invokestatic i0 =>
    obtain rfl := m_lk (n := 3) hl rfl (by decide)
    have he0 := he
    unfold m_exe at he0
    dsimp only at he0
    split at he0
    next mi1 q hf =>
      obtain ⟨x, y, r, rfl, h⟩ := m_i2_inv he0
      split at h
      next hq =>
        cases h
        obtain ⟨h1, h2⟩ := Bool.and_eq_true_iff.mp hq
        have h1 : 1 ≤ m_rF mi := Nat.le_of_ble_eq_true h1
        have h2 := Nat.le_of_ble_eq_true h2
        have hf2 := m_calls_ok (m_owi mi) _ (m_fnd_mem hf)
        have hlk : Cond.methodLink (m_own mi) i0 Lib.Math.max.name ∈ m_gw := by
          obtain ⟨-, -, -, h5⟩ := hf2
          rcases h5 with ⟨h6, -⟩ | ⟨h6, -⟩ | ⟨h6, -⟩ | ⟨h6, -⟩ | ⟨h6, -⟩ | ⟨h6, h7⟩ | ⟨h6, h7⟩ <;> first | exact h7 | (exfalso; simp at h6; done)
        refine m_stp (fun H locs la hW hS hL k9 => ?_) k
        exact va_mmax hx hb (by rw [hml]; exact hL.1.symm) hown (hts _ hlk) (hts _ m_max_ok.1) (hts _ m_max_ok.2.1) (hts _ m_max_ok.2.2) (by omega) (by rw [m_cs_cv]; omega) (by omega) (by omega) hd k9
      next => cases h
    next mi1 q hf =>
      obtain ⟨x, y, r, rfl, h⟩ := m_i2_inv he0
      split at h
      next hq =>
        cases h
        obtain ⟨h1, h2⟩ := Bool.and_eq_true_iff.mp hq
        have h1 : 1 ≤ m_rF mi := Nat.le_of_ble_eq_true h1
        have h2 := Nat.le_of_ble_eq_true h2
        have hf2 := m_calls_ok (m_owi mi) _ (m_fnd_mem hf)
        have hlk : Cond.methodLink (m_own mi) i0 Lib.Math.min.name ∈ m_gw := by
          obtain ⟨-, -, -, h5⟩ := hf2
          rcases h5 with ⟨h6, -⟩ | ⟨h6, -⟩ | ⟨h6, -⟩ | ⟨h6, -⟩ | ⟨h6, -⟩ | ⟨h6, h7⟩ | ⟨h6, h7⟩ <;> first | exact h7 | (exfalso; simp at h6; done)
        refine m_stp (fun H locs la hW hS hL k9 => ?_) k
        exact va_mmin hx hb (by rw [hml]; exact hL.1.symm) hown (hts _ hlk) (hts _ m_min_ok.1) (hts _ m_min_ok.2.1) (hts _ m_min_ok.2.2) (by omega) (by rw [m_cs_cv]; omega) (by omega) (by omega) hd k9
      next => cases h
    next => cases he0
  | _ => cases he
end EXOK
end
section
/-! a run of the interpreter is a run of the machine -/
theorem m_gw_good {w : Cond} (h : w ∈ m_gw) : (w.onTables && w.keeps) = true ∨ ∃ ty, w = .arrayClass ty := good_of_word (List.mem_filter.mp h).2
def m_wsq (mi : Nat) : List Cond := .code (m_y mi) (m_cod mi) (m_mxl mi) (m_rty mi) :: m_gw
theorem m_e_lt {mi : Nat} (h : mi < 144) : m_good (m_e mi) := by
  have hl : mTX.length = 144 := by decide +kernel
  refine mT_ok _ ?_
  have e : mT[mi]? = some (m_e mi) := by
    unfold m_e
    rw [List.getD_eq_getElem?_getD]
    have h2 : mi < mT.length := by
      have : mT.length = 147 := by decide +kernel
      omega
    rw [List.getElem?_eq_getElem h2]
    rfl
  have e2 : mTX[mi]? = some (m_e mi) := by
    rw [← e]
    unfold mT
    rw [List.append_assoc, List.getElem?_append_left (by omega)]
  exact List.mem_of_getElem? e2
theorem m_wsq_good {mi : Nat} (h : mi < 144) : GoodIn m_gw (m_wsq mi) := by
  intro w hw
  have h1 : w ∈ m_gw := by
    rcases List.mem_cons.mp hw with rfl | h2
    · exact (m_e_lt h).2.1
    · exact h2
  exact ⟨h1, m_gw_good h1⟩
theorem m_gi {ws : List Cond} (h : ∀ w ∈ ws, w ∈ m_gw) : GoodIn m_gw ws := fun w hw => ⟨h w hw, m_gw_good (h w hw)⟩
set_option maxHeartbeats 4000000 in
theorem m_exe_mono {S : mS} {mi pc : Nat} {i : Instr} {ls ls' : mLs} {st st' : List Value} {w w' : mW} {g : Option Bool} {pc' : Nat} (he : m_exe S mi i pc ls st w = some (g, pc', ls', st', w')) : ∃ t, w'.1 = w.1 ++ t := by
  cases i <;> (try (cases he; done)) <;> (simp only [m_exe, m_i1, m_i2, m_l1, m_l2, m_li, m_a1, m_ai, m_aii, m_ail, m_aia, m_put, m_put2, m_val, m_getf, m_putf, m_kd, m_alen] at he) <;> (repeat' split at he) <;> first | (cases he; done) | (cases he; exact ⟨[], (List.append_nil _).symm⟩) | (cases he; exact ⟨_, rfl⟩)
theorem m_szs_app {w w' : mW} {t : List (Nat × Nat)} (h : w'.1 = w.1 ++ t) : w'.1.length = w.1.length + t.length ∧ m_szs w' = m_szs w + (t.map fun q => if q.1 < 7 then m_N q.1 else q.2).sum := by
  unfold m_szs
  rw [h]
  simp
theorem m_run_mono {S : mS} : ∀ (n mi pc : Nat) (ls : mLs) (st : List Value) (w : mW) (v : Option Value) (w' : mW), m_run S n mi pc ls st w = some (v, w') → ∃ t, w'.1 = w.1 ++ t := by
  intro n
  induction n with
  | zero => intro mi pc ls st w v w' h; cases h
  | succ n ih =>
    intro mi pc ls st w v w' h
    unfold m_run at h
    split at h
    next => cases h
    next i len hd =>
      split at h
      next => cases h
      next =>
        split at h
        next g v0 hr =>
          split at h
          next => cases h
          next => cases h; exact ⟨[], by simp⟩
        next =>
          split at h
          next m' av r hc =>
            split at h
            next v1 w1 h1 =>
              obtain ⟨t1, e1⟩ := ih _ _ _ _ _ _ _ h1
              obtain ⟨t2, e2⟩ := ih _ _ _ _ _ _ _ h
              exact ⟨t1 ++ t2, by rw [e2, e1, List.append_assoc]⟩
            next => cases h
          next =>
            split at h
            next g pc' ls' st' w1 he =>
              split at h
              next => cases h
              next =>
                obtain ⟨t1, e1⟩ := m_exe_mono he
                obtain ⟨t2, e2⟩ := ih _ _ _ _ _ _ _ h
                exact ⟨t1 ++ t2, by rw [e2, e1, List.append_assoc]⟩
            next => cases h
def m_retAt (mi pc : Nat) (v : Option Value) : Prop := match v with
  | none => decode (m_cod mi) pc = .ok (.return_, 1) ∧ m_rty mi = none
  | some (.int x) => decode (m_cod mi) pc = .ok (.ireturn, 1) ∧ (m_rty mi = some .int ∨ (m_rty mi = some .boolean ∧ m_bl x = true))
  | some (.long _) => decode (m_cod mi) pc = .ok (.lreturn, 1) ∧ m_rty mi = some .long
  | _ => False
theorem m_ret_inv {mi pc len : Nat} {i : Instr} {st : List Value} {g : Option Bool} {v : Option Value} (hd : decode (m_cod mi) pc = .ok (i, len)) (hl : m_lenOk i len = true) (h : m_ret mi i st = some (g, v)) (hg : g ≠ some false) : m_retAt mi pc v ∧ st = v.toList := by
  unfold m_ret at h
  split at h
  next x =>
    obtain rfl := m_lk (n := 1) hl rfl (by decide)
    split at h
    next hr => cases h; exact ⟨⟨hd, Or.inl hr⟩, rfl⟩
    next hr =>
      cases h
      refine ⟨⟨hd, Or.inr ⟨hr, ?_⟩⟩, rfl⟩
      cases hb : m_bl x with
      | true => rfl
      | false => rw [hb] at hg; exact absurd rfl hg
    next => cases h
  next x =>
    obtain rfl := m_lk (n := 1) hl rfl (by decide)
    split at h
    next hr => cases h; exact ⟨⟨hd, hr⟩, rfl⟩
    next => cases h
  next =>
    obtain rfl := m_lk (n := 1) hl rfl (by decide)
    split at h
    next hr => cases h; exact ⟨⟨hd, hr⟩, rfl⟩
    next => cases h
  next => cases h
theorem m_cal1_inv {mi : Nat} {st : List Value} {w : mW} {q : Nat × Nat × Nat × MethodName} {ks : List Nat} {m' : Nat} {av r : List Value} (h : m_cal1 mi st w q ks = some (m', av, r)) :
    m' = q.1 ∧ q.2.1 ∈ ks ∧ m_cs r ≤ 8 ∧ m_rF m' + 1 ≤ m_rF mi ∧ 8 + (m_mxl m' + 11) + m_rL m' ≤ m_rL mi ∧ m_cs av ≤ m_mxl m' ∧ m_lgc (m_lg m') 0 av = true ∧
    (((q.2.1 = 1 ∨ q.2.1 = 4) ∧ st = av.reverse ++ r ∧ av.length = q.2.2.1) ∨ (¬ (q.2.1 = 1 ∨ q.2.1 = 4) ∧ ∃ a as, av = .ref a :: as ∧ as.length = q.2.2.1 ∧ st = as.reverse ++ .ref a :: r ∧ Nat.beq (m_sh w a).1 (m_owi m') = true ∧ m_owi m' < 7)) := by
  unfold m_cal1 at h
  split at h
  next => cases h
  next hk =>
    have hk2 : q.2.1 ∈ ks := by
      obtain ⟨k, h1, h2⟩ := List.any_eq_true.mp hk
      rw [← Nat.eq_of_beq_eq_true h2]; exact h1
    dsimp only at h
    split at h
    next => cases h
    next hb =>
      simp only [Bool.and_eq_true] at hb
      obtain ⟨⟨⟨⟨⟨h1, h2⟩, h3⟩, h4⟩, h5⟩, h6⟩ := hb
      have h1 := Nat.eq_of_beq_eq_true h1
      have h2 := Nat.le_of_ble_eq_true h2
      have h3 := Nat.le_of_ble_eq_true h3
      have h4 := Nat.le_of_ble_eq_true h4
      have h5 := Nat.le_of_ble_eq_true h5
      split at h
      next hq =>
        rw [show m_nar q.2.1 q.2.2.1 = q.2.2.1 by rw [hq]; rfl] at h1 h2 h5 h6 h
        cases h
        exact ⟨rfl, hk2, h2, h3, h4, h5, h6, Or.inl ⟨Or.inl hq, by rw [List.reverse_reverse, List.take_append_drop], h1⟩⟩
      next hq =>
        rw [show m_nar q.2.1 q.2.2.1 = q.2.2.1 by rw [hq]; rfl] at h1 h2 h5 h6 h
        cases h
        exact ⟨rfl, hk2, h2, h3, h4, h5, h6, Or.inl ⟨Or.inr hq, by rw [List.reverse_reverse, List.take_append_drop], h1⟩⟩
      next hq1 hq4 =>
        have hN : m_nar q.2.1 q.2.2.1 = q.2.2.1 + 1 := by
          unfold m_nar
          split
          next hh => exact absurd hh hq1
          next hh => exact absurd hh hq4
          next => rfl
        rw [hN] at h1 h2 h5 h6 h
        split at h
        next a as hav =>
          split at h
          next h9 =>
           obtain ⟨h7, h8⟩ := m_kd_inv h
           cases h8
           have hst : st = (st.take (q.2.2.1 + 1)).reverse.reverse ++ st.drop (q.2.2.1 + 1) := by rw [List.reverse_reverse, List.take_append_drop]
           refine ⟨rfl, hk2, h2, h3, h4, h5, h6, Or.inr ⟨fun hh => hh.elim hq1 hq4, a, as, hav, ?_, ?_, h7, Nat.le_of_ble_eq_true h9⟩⟩
           · rw [hav] at h1
             simpa using h1
           · rw [hav, List.reverse_cons, List.append_assoc] at hst
             exact hst
          next => cases h
        next => cases h
def m_Qv (B b : Nat) (cA : Nat → ClassId) (D : va_G) (w : mW) (v : Option Value) : Array Value → State → Outcome → State → Prop := match v with
  | none => va_Qv (fun _ : Unit => True) (fun _ t => m_Wo B b cA D w t.heap) (fun q => B ≤ q)
  | some (.int x) => va_Qi (fun (r : Int32) (_ : Unit) => r = x) (fun _ t => m_Wo B b cA D w t.heap) (fun q => B ≤ q)
  | some (.long x) => va_Ql (fun (r : Int64) (_ : Unit) => r = x) (fun _ t => m_Wo B b cA D w t.heap) (fun q => B ≤ q)
  | _ => fun _ _ _ _ => False
def m_Pre (S : mS) (B b : Nat) (cA : Nat → ClassId) (D : va_G) (w : mW) (av : List Value) : Array Value → State → Prop := va_Pc (av.map (m_cv B b)) (fun U => m_Wo B b cA D w U.heap ∧ m_Sx S B b cA D U)
section SOUND
variable {S : mS} {B b : Nat} {cA : Nat → ClassId} {D : va_G} {mi : Nat} {p : Program} {l : Launch} {e : Env} {R : Room} {s : State} {m : MethodId} {args : Array Value} {below : List Frame} {meth : Method} {c : Code} {cells slots : Nat} {Q : State → Prop}
theorem m_Sx_warm {U : State} (h : m_Sx S B b cA D s) {H : Heap} {locs : List Loc} (hS : va_S (fun q => B ≤ q) s.heap H locs) (hU : U.heap = H) (hW : s.WarmedH U.vm) : m_Sx S B b cA D U := by
  obtain ⟨h1, h2, h3, h4, h5, h6⟩ := h
  refine ⟨va_K.moved hW.alike h1, fun w hw => ?_, va_AO.moved hW.alike h3, va_X.moved hW.alike (h4.kept ?_), h5, by rw [hU]; exact Nat.le_trans h6 hS.1⟩
  · have h7 := h2 w hw
    unfold m_nw at hw
    simp only [List.mem_cons, List.not_mem_nil, or_false] at hw
    rcases hw with rfl | rfl | rfl | rfl | rfl | rfl <;> exact va_Nw.warmM hW h7
  · rw [hU]
    exact hS.2.1 b (Nat.lt_of_lt_of_le h5 h6) (Nat.not_le.mpr h5)
theorem m_blind {w : mW} {av : List Value} : FrameBlind (m_Pre S B b cA D w av) := by
  intro a U g mk h
  obtain ⟨h1, h2, h3, h4, h5, h6⟩ := h
  refine ⟨h1, h2, va_K.moved (u := U) (U := U.calling g mk a) (Vm.Alike.refl U.vm) h3, fun w hw => ?_, va_AO.moved (u := U) (U := U.calling g mk a) (Vm.Alike.refl U.vm) h5, ?_⟩
  · have h7 := h4 w hw
    unfold m_nw at hw
    simp only [List.mem_cons, List.not_mem_nil, or_false] at hw
    rcases hw with rfl | rfl | rfl | rfl | rfl | rfl <;> exact va_Nw.same rfl rfl h7
  · exact ⟨va_X.moved (u := U) (U := U.calling g mk a) (Vm.Alike.refl U.vm) h6.1, h6.2⟩
theorem m_after {pc : Nat} {la : Array Slot} {H : Heap} {locs : List Loc} {stk r : List Value} {mc ms : Nat} {w1 : mW} {v1 : Option Value} {a : Array Value} (hr : va_Run p l e R s m args below meth c H locs cells slots mc ms (F0 m pc la stk) (r.map (m_cv B b)) (m_Qv B b cA D w1 v1 a) (fun q => B ≤ q)) (hS : va_S (fun q => B ≤ q) s.heap H locs)
    (kk : ∀ (H1 : Heap) (locs1 : List Loc), m_Wo B b cA D w1 H1 → va_S (fun q => B ≤ q) s.heap H1 locs1 → W p l e R s m args below meth c H1 locs1 (cells + mc) (slots + ms) Q (F0 m (pc + 3) la ((v1.toList ++ r).map (m_cv B b)))) : W p l e R s m args below meth c H locs cells slots Q (F0 m pc la stk) := by
  cases v1 with
  | none =>
    refine va_callv (a := a) hr hS (fun _ _ h => h) (fun _ h => h) fun u t H1 locs1 ht _ _ hB _ _ hS1 => ?_
    exact kk H1 locs1 (by rw [← ht]; exact hB) hS1
  | some v =>
    cases v with
    | int x =>
      refine va_calli (a := a) hr hS (fun _ _ h => h) (fun _ h => h) fun r u t H1 locs1 ht _ hp hB _ _ hS1 => ?_
      rw [hp]
      exact kk H1 locs1 (by rw [← ht]; exact hB) hS1
    | long x =>
      refine va_calll (a := a) hr hS (fun _ _ h => h) (fun _ h => h) fun r u t H1 locs1 ht _ hp hB _ _ hS1 => ?_
      rw [hp]
      exact kk H1 locs1 (by rw [← ht]; exact hB) hS1
    | _ =>
      intro T hT X
      obtain ⟨v, st₀, t, T', L, h0, X', hL, e1, e2, hQ, st⟩ := hr T hT X
      exact absurd hQ (fun h => h)
end SOUND
end
section
/-! a run of the interpreter is a run of the machine: methods and calls -/
/-- what a run of n steps at most is worth -/
def m_Snd (S : mS) (B b : Nat) (cA : Nat → ClassId) (D : va_G) (l : Launch) (n : Nat) : Prop :=
  ∀ (mi pc : Nat) (ls : mLs) (st : List Value) (w : mW) (v : Option Value) (w' : mW), m_run S n mi pc ls st w = some (v, w') →
  ∀ (p : Program) (e : Env) (R : Room) (s : State) (m : MethodId) (args : Array Value) (below : List Frame) (meth : Method) (c : Code) (cells slots : Nat) (Q : State → Prop), m_Cx S B b cA D mi p R s m args meth c →
  ∀ (cells' slots' : Nat), cells' = cells + (w'.1.length - w.1.length) → slots' = slots + (m_szs w' - m_szs w) → cells' ≤ R.cells → slots' ≤ R.slots →
  (∀ (pc' : Nat) (la' : Array Slot) (H' : Heap) (locs' : List Loc), m_retAt mi pc' v → m_Wo B b cA D w' H' → va_S (fun q => B ≤ q) s.heap H' locs' → W p l e R s m args below meth c H' locs' cells' slots' Q (F0 m pc' la' (v.toList.map (m_cv B b)))) →
  m_FW B b cA D mi p l e R s m args below meth c cells slots Q pc ls st w
theorem m_met {S : mS} {B b : Nat} {cA : Nat → ClassId} {D : va_G} {l : Launch} {n : Nat} (ih : m_Snd S B b cA D l n) {mi : Nat} (hmi : mi < 144) {av : List Value} {w w' : mW} {v : Option Value} (hr : m_run S n mi 0 (m_ent mi av) [] w = some (v, w')) (hcs : m_cs av ≤ m_mxl mi) (hlg : m_lgc (m_lg mi) 0 av = true) :
    Met l (m_y mi) (m_wsq mi) ({ frames := m_rF mi, cells := w'.1.length - w.1.length, slots := m_szs w' - m_szs w, locals := m_rL mi }) (m_Pre S B b cA D w av) (m_Qv B b cA D w' v) (w'.1.length - w.1.length) (m_szs w' - m_szs w) (fun q => B ≤ q) := by
  have hgd := m_e_lt hmi
  refine Met.ofW (cc := m_cod mi) (maxL := m_mxl mi) (ret := m_rty mi) hgd.1 rfl ?_
  intro p e s m args below meth c s₁ Bo hml hv
  obtain ⟨rfl, hW, hSx⟩ := hv
  have hx := Bo.exec
  have hb := Bo.bytes
  have hrt := Bo.returns
  have hts0 := atoms_spec (ws := m_wsq mi) Bo.pre
  have hts : ∀ w ∈ m_gw, w.before ((av.map (m_cv B b)).toArray) s = true := fun w h => hts0 w (List.mem_cons_of_mem _ h)
  have hown0 : s.vm.findClass (m_y mi).cls = some m.cls := findClass_of_methodNamed Bo.named
  have hown : s.vm.findClass (m_own mi) = some m.cls := by
    rw [← hown0]
    exact congrArg (fun x => s.vm.findClass x) hgd.2.2.1.symm
  have hlocks := Bo.notSynchronized
  have hin : meth.name = (m_y mi).name := (name_of_methodNamed Bo.named Bo.method).1
  have C : m_Cx S B b cA D mi p ({ frames := m_rF mi, cells := w'.1.length - w.1.length, slots := m_szs w' - m_szs w, locals := m_rL mi } : Room) s m ((av.map (m_cv B b)).toArray) meth c :=
    ⟨hx, hb, hml, hown, hts, hSx, fun h => by rw [hin]; exact of_decide_eq_true h, Nat.le_refl _, Nat.le_refl _⟩
  rw [lg_entry_eq]
  refine ih mi 0 (m_ent mi av) [] w v w' hr p e _ s m _ below meth c 0 0 _ C (w'.1.length - w.1.length) (m_szs w' - m_szs w) (Nat.zero_add _).symm (Nat.zero_add _).symm (Nat.le_refl _) (Nat.le_refl _) ?_ (m_ent_lgo hlg) s.heap [] _ hW va_S.rf (m_ent_has hcs)
  intro pc' la' H' locs' hret hW' hS'
  cases v with
  | none => exact W.vret hx hb (hrt.trans hret.2) (fun t ht hWm => ⟨⟨(), rfl, trivial, by show m_Wo B b cA D w' t.heap; rw [ht]; exact hW'⟩, hS'.F ht⟩) hS'.2.2 hret.1
  | some u =>
    cases u with
    | int x =>
      obtain ⟨hd, hty⟩ := hret
      rcases hty with h1 | ⟨h1, h2⟩
      · exact W.iret (v := x) hx hb (hrt.trans h1) (fun t ht hWm => ⟨⟨x, (), rfl, rfl, by show m_Wo B b cA D w' t.heap; rw [ht]; exact hW'⟩, hS'.F ht⟩) hS'.2.2 hd
      · exact W.zret (v := x) hx hb (hrt.trans h1) (m_bl_ok h2).1 (fun t ht hWm => ⟨⟨x, (), rfl, rfl, by show m_Wo B b cA D w' t.heap; rw [ht]; exact hW'⟩, hS'.F ht⟩) hS'.2.2 hd
    | long x => exact W.lret (v := x) hx hb (hrt.trans hret.2) (fun t ht hWm => ⟨⟨x, (), rfl, rfl, by show m_Wo B b cA D w' t.heap; rw [ht]; exact hW'⟩, hS'.F ht⟩) hS'.2.2 hret.1
    | _ => exact absurd hret (fun h => h)
theorem m_wsV_in {own C : String} {k m' : Nat} {y : MethodName} (hm : m' < 144) (h1 : Cond.methodLink own k y ∈ m_gw) (h2 : Cond.instanceMethod y ∈ m_gw) (h3 : Cond.selects C y y ∈ m_gw) (h4 : Cond.initialized C ∈ m_gw) : GoodIn m_gw (wsV own k C y (m_wsq m')) := by
  intro w hw
  rcases List.mem_append.mp hw with h | h
  · simp only [List.mem_cons, List.not_mem_nil, or_false] at h
    rcases h with rfl | rfl | rfl | rfl
    · exact ⟨h1, m_gw_good h1⟩
    · exact ⟨h2, m_gw_good h2⟩
    · exact ⟨h3, m_gw_good h3⟩
    · exact ⟨h4, m_gw_good h4⟩
  · exact m_wsq_good hm w h
theorem m_wsS_in {own : String} {k m' : Nat} {y : MethodName} (hm : m' < 144) (h1 : Cond.methodLink own k y ∈ m_gw) (h2 : Cond.static y ∈ m_gw) (h4 : Cond.initialized y.cls ∈ m_gw) : GoodIn m_gw (va_wsS own k y (m_wsq m')) := by
  intro w hw
  rcases List.mem_append.mp hw with h | h
  · simp only [List.mem_cons, List.not_mem_nil, or_false] at h
    rcases h with rfl | rfl | rfl
    · exact ⟨h1, m_gw_good h1⟩
    · exact ⟨h2, m_gw_good h2⟩
    · exact ⟨h4, m_gw_good h4⟩
  · exact m_wsq_good hm w h
theorem m_kV {own : String} {q : Nat × Nat × Nat × Nat × MethodName} (h : m_callOk own q) (hk : q.2.2.1 = 0) : Cond.methodLink own q.1 q.2.2.2.2 ∈ m_gw ∧ Cond.instanceMethod q.2.2.2.2 ∈ m_gw ∧ Cond.selects q.2.2.2.2.cls q.2.2.2.2 q.2.2.2.2 ∈ m_gw := by
  obtain ⟨-, -, -, h⟩ := h
  rcases h with h | h | h | h | h | h | h
  · exact h.2
  all_goals exact absurd (hk.symm.trans h.1) (by decide)
theorem m_kS {own : String} {q : Nat × Nat × Nat × Nat × MethodName} (h : m_callOk own q) (hk : q.2.2.1 = 1) : Cond.methodLink own q.1 q.2.2.2.2 ∈ m_gw ∧ Cond.static q.2.2.2.2 ∈ m_gw := by
  obtain ⟨-, -, -, h⟩ := h
  rcases h with h | h | h | h | h | h | h
  case inr.inl => exact h.2
  all_goals exact absurd (hk.symm.trans h.1) (by decide)
theorem m_kI {own : String} {q : Nat × Nat × Nat × Nat × MethodName} (h : m_callOk own q) (hk : q.2.2.1 = 2) : Cond.methodLink own q.1 q.2.2.2.2 ∈ m_gw ∧ q.2.2.2.2.name = "<init>" ∧ Cond.instanceMethod q.2.2.2.2 ∈ m_gw ∧ (m_e q.2.1).2.2.2.1 = none := by
  obtain ⟨-, -, -, h⟩ := h
  rcases h with h | h | h | h | h | h | h
  case inr.inr.inl => exact h.2
  all_goals exact absurd (hk.symm.trans h.1) (by decide)
theorem m_kIN {own : String} {q : Nat × Nat × Nat × Nat × MethodName} (h : m_callOk own q) (hk : q.2.2.1 = 3) : (∃ h, Cond.methodLinkNest own q.1 q.2.2.2.2 h ∈ m_nw) ∧ q.2.2.2.2.name = "<init>" ∧ Cond.instanceMethod q.2.2.2.2 ∈ m_gw ∧ (m_e q.2.1).2.2.2.1 = none := by
  obtain ⟨-, -, -, h⟩ := h
  rcases h with h | h | h | h | h | h | h
  case inr.inr.inr.inl => exact h.2
  all_goals exact absurd (hk.symm.trans h.1) (by decide)
theorem m_kSN {own : String} {q : Nat × Nat × Nat × Nat × MethodName} (h : m_callOk own q) (hk : q.2.2.1 = 4) : (∃ h, Cond.methodLinkNest own q.1 q.2.2.2.2 h ∈ m_nw) ∧ Cond.static q.2.2.2.2 ∈ m_gw := by
  obtain ⟨-, -, -, h⟩ := h
  rcases h with h | h | h | h | h | h | h
  case inr.inr.inr.inr.inl => exact h.2
  all_goals exact absurd (hk.symm.trans h.1) (by decide)
section CALLS
variable {S : mS} {B b : Nat} {cA : Nat → ClassId} {D : va_G} {mi : Nat} {p : Program} {l : Launch} {e : Env} {R : Room} {s : State} {m : MethodId} {args : Array Value} {below : List Frame} {meth : Method} {c : Code} {cells slots : Nat} {Q : State → Prop}
theorem m_callrun {n : Nat} (ih : m_Snd S B b cA D l n) (C : m_Cx S B b cA D mi p R s m args meth c) {i : Instr} {pc len : Nat} {st : List Value} {w w1 : mW} {m' : Nat} {av r : List Value} {v1 : Option Value} (hd : decode (m_cod mi) pc = .ok (i, len)) (hl : m_lenOk i len = true) (hc : m_cal mi i st w = some (m', av, r)) (hr : m_run S n m' 0 (m_ent m' av) [] w = some (v1, w1))
    {H : Heap} {locs : List Loc} {la : Array Slot} (hW : m_Wo B b cA D w H) (hS : va_S (fun q => B ≤ q) s.heap H locs) (hsz : la.size = m_mxl mi) (hcl : cells + (w1.1.length - w.1.length) ≤ R.cells) (hsl : slots + (m_szs w1 - m_szs w) ≤ R.slots) :
    ∃ a, va_Run p l e R s m args below meth c H locs cells slots (w1.1.length - w.1.length) (m_szs w1 - m_szs w) (F0 m pc la (st.map (m_cv B b))) (r.map (m_cv B b)) (m_Qv B b cA D w1 v1 a) (fun q => B ≤ q) := by
  obtain ⟨hx, hb, hml, hown, hts, hSx, -, hrF, hrL⟩ := C
  have hNw : ∀ w ∈ m_nw, va_Nw w s := hSx.2.1
  unfold m_cal at hc
  split at hc
  next k =>
    obtain rfl := m_lk (n := 3) hl rfl (by decide)
    split at hc
    next q hq =>
      obtain ⟨rfl, hk, hcr, hfr, hlo, hca, hlg, hcase⟩ := m_cal1_inv hc
      have hk0 : q.2.1 = 0 := by simpa using hk
      have hok := m_calls_ok (m_owi mi) _ (m_fnd_mem hq)
      have hm : q.1 < 144 := hok.2.1 (by show q.2.1 < 5; rw [hk0]; decide)
      have hgd := m_e_lt hm
      have hyy : m_y q.1 = q.2.2.2 := hok.1
      have hpar := hok.2.2.1
      obtain ⟨h1, h2, h3⟩ := m_kV hok hk0
      dsimp only at h1 h2 h3 hpar
      rw [← hyy] at h1 h2 h3 hpar
      rcases hcase with ⟨h, -⟩ | ⟨-, a, as, rfl, hlen, rfl, hsh, howi⟩
      · rw [hk0] at h; exact absurd h (by decide)
      obtain ⟨i0, n0, rfl, hq1, -⟩ := m_sh_get hsh (by omega)
      have hM := m_met ih hm hr hca hlg
      have hcls : (m_y q.1).cls = m_C (m_owi q.1) := hgd.2.2.1
      refine ⟨_, va_runV (b := m_ad B b (i0 + 1)) (As := as.map (m_cv B b)) (n := q.2.2.1) ⟨hx, hb, hml, hown, hts⟩ hM (cwV q.2.2.1 hts (m_wsV_in hm h1 h2 h3 hgd.2.2.2.1) rfl rfl rfl ⟨rfl, hgd.2.2.2.2.1, hgd.2.2.2.2.2, hpar⟩ ⟨by dsimp only; omega, by dsimp only; omega⟩) ⟨m_blind, ?_, fun U hU hWm => ⟨by simp [m_cv], by rw [hU]; exact hW, m_Sx_warm hSx hS hU hWm⟩⟩ rfl (by simpa using hlen) hsz (by simp [m_cv]) (lv_room (by rw [m_cs_cv]; exact hcr)) hd ⟨hcl, hsl⟩⟩
      rw [hcls]
      exact va_recv hSx.1 hW.2 (m_cl_ok howi).1 (by rw [m_wl_get hq1, m_ce_obj howi]; rfl)
    next => cases hc
  next k =>
    obtain rfl := m_lk (n := 3) hl rfl (by decide)
    split at hc
    next q hq =>
      obtain ⟨rfl, hk, hcr, hfr, hlo, hca, hlg, hcase⟩ := m_cal1_inv hc
      have hk0 : q.2.1 = 1 ∨ q.2.1 = 4 := by simpa using hk
      have hok := m_calls_ok (m_owi mi) _ (m_fnd_mem hq)
      have hm : q.1 < 144 := hok.2.1 (by show q.2.1 < 5; rcases hk0 with h | h <;> rw [h] <;> decide)
      have hgd := m_e_lt hm
      have hyy : m_y q.1 = q.2.2.2 := hok.1
      have hpar := hok.2.2.1
      dsimp only at hpar
      rw [← hyy] at hpar
      rcases hcase with ⟨-, rfl, hlen⟩ | ⟨h, -⟩
      case inr => exact absurd hk0 h
      have hM := m_met ih hm hr hca hlg
      rcases hk0 with hk0 | hk0
      · obtain ⟨h1, h2⟩ := m_kS hok hk0
        dsimp only at h1 h2
        rw [← hyy] at h1 h2
        exact ⟨_, va_runS (As := av.map (m_cv B b)) (n := q.2.2.1) ⟨hx, hb, hml, hown, hts⟩ hM (va_cwS q.2.2.1 hts (m_wsS_in hm h1 h2 hgd.2.2.2.1) rfl rfl rfl ⟨hgd.2.2.2.2.1, hgd.2.2.2.2.2, hpar⟩ ⟨by dsimp only; omega, by dsimp only; omega⟩) ⟨m_blind, fun U hU hWm => ⟨rfl, by rw [hU]; exact hW, m_Sx_warm hSx hS hU hWm⟩⟩ rfl (by simpa using hlen) hsz (by simp) (lv_room (by rw [m_cs_cv]; exact hcr)) hd ⟨hcl, hsl⟩⟩
      · obtain ⟨⟨hh, h1⟩, h2⟩ := m_kSN hok hk0
        dsimp only at h1 h2
        rw [← hyy] at h1 h2
        exact ⟨_, va_runSN (As := av.map (m_cv B b)) (n := q.2.2.1) ⟨hx, hb, hml, hown, hts⟩ hM ⟨va_cnB q.2.2.1 hts (m_wsq_good hm) rfl rfl rfl (hNw _ h1) (hts _ hgd.2.2.2.1) ⟨hgd.2.2.2.2.1, hgd.2.2.2.2.2, hpar⟩ ⟨by dsimp only; omega, by dsimp only; omega⟩, hts _ h2, trivial⟩ ⟨m_blind, fun U hU hWm => ⟨rfl, by rw [hU]; exact hW, m_Sx_warm hSx hS hU hWm⟩⟩ rfl (by simpa using hlen) hsz (by simp) (lv_room (by rw [m_cs_cv]; exact hcr)) hd ⟨hcl, hsl⟩⟩
    next => cases hc
  next k =>
    obtain rfl := m_lk (n := 3) hl rfl (by decide)
    split at hc
    next q hq =>
      obtain ⟨rfl, hk, hcr, hfr, hlo, hca, hlg, hcase⟩ := m_cal1_inv hc
      have hk0 : q.2.1 = 2 ∨ q.2.1 = 3 := by simpa using hk
      have hok := m_calls_ok (m_owi mi) _ (m_fnd_mem hq)
      have hm : q.1 < 144 := hok.2.1 (by show q.2.1 < 5; rcases hk0 with h | h <;> rw [h] <;> decide)
      have hgd := m_e_lt hm
      have hyy : m_y q.1 = q.2.2.2 := hok.1
      have hpar := hok.2.2.1
      dsimp only at hpar
      rw [← hyy] at hpar
      rcases hcase with ⟨h, -⟩ | ⟨-, a, as, rfl, hlen, rfl, -⟩
      · rcases hk0 with hk0 | hk0 <;> rw [hk0] at h <;> exact absurd h (by decide)
      have hM := m_met ih hm hr hca hlg
      rcases hk0 with hk0 | hk0
      · obtain ⟨h1, h2, h3, h4⟩ := m_kI hok hk0
        dsimp only at h1 h2 h3 h4
        rw [← hyy] at h1 h2 h3
        have h4 : m_rty q.1 = none := h4
        exact ⟨_, va_runI (b := m_ad B b a) (As := as.map (m_cv B b)) (n := q.2.2.1) ⟨hx, hb, hml, hown, hts⟩ hM (cwI (ws' := m_gw) (bytes := m_cod q.1) (maxL := m_mxl q.1) q.2.2.1 hts (m_wsq_good hm) (by unfold m_wsq; rw [h4]) rfl rfl (hts _ hgd.2.2.2.1) (hts _ h1) (hts _ h3) h2 ⟨hgd.2.2.2.2.1, hgd.2.2.2.2.2, hpar⟩ ⟨by dsimp only; omega, by dsimp only; omega⟩) ⟨m_blind, fun U hU hWm => ⟨by simp [m_cv], by rw [hU]; exact hW, m_Sx_warm hSx hS hU hWm⟩⟩ rfl (by simpa using hlen) hsz (by simp [m_cv]) (lv_room (by rw [m_cs_cv]; exact hcr)) hd ⟨hcl, hsl⟩⟩
      · obtain ⟨⟨hh, h1⟩, h2, h3, h4⟩ := m_kIN hok hk0
        dsimp only at h1 h2 h3 h4
        rw [← hyy] at h1 h2 h3
        have h4 : m_rty q.1 = none := h4
        exact ⟨_, va_runIN (b := m_ad B b a) (As := as.map (m_cv B b)) (n := q.2.2.1) ⟨hx, hb, hml, hown, hts⟩ hM ⟨va_cnB (ws' := m_gw) (bytes := m_cod q.1) (maxL := m_mxl q.1) q.2.2.1 hts (m_wsq_good hm) (by unfold m_wsq; rw [h4]) rfl rfl (hNw _ h1) (hts _ hgd.2.2.2.1) ⟨hgd.2.2.2.2.1, hgd.2.2.2.2.2, hpar⟩ ⟨by dsimp only; omega, by dsimp only; omega⟩, h2, hts _ h3⟩ ⟨m_blind, fun U hU hWm => ⟨by simp [m_cv], by rw [hU]; exact hW, m_Sx_warm hSx hS hU hWm⟩⟩ rfl (by simpa using hlen) hsz (by simp [m_cv]) (lv_room (by rw [m_cs_cv]; exact hcr)) hd ⟨hcl, hsl⟩⟩
    next => cases hc
  next => cases hc
end CALLS
/-- THE RUN: what the interpreter answers, the machine does -/
theorem m_sound (S : mS) (B b : Nat) (cA : Nat → ClassId) (D : va_G) (l : Launch) : ∀ n, m_Snd S B b cA D l n := by
  intro n
  induction n with
  | zero => intro mi pc ls st w v w' h; cases h
  | succ n ih =>
    intro mi pc ls st w v w' h p e R s m args below meth c cells slots Q C cells' slots' ec es hc hs k
    unfold m_run at h
    split at h
    next => cases h
    next i len hd =>
      split at h
      next => cases h
      next hl =>
        split at h
        next g v0 hr =>
          have hg : g ≠ some false := by
            intro hg
            rw [hg] at h
            cases h
          split at h
          next => cases h
          next =>
            cases h
            obtain ⟨h1, rfl⟩ := m_ret_inv hd hl hr hg
            rw [Nat.sub_self, Nat.add_zero] at ec es
            subst ec; subst es
            exact fun _ H locs la hW hS _ => k pc la H locs h1 hW hS
        next =>
          split at h
          next m' av r hcl =>
            split at h
            next v1 w1 h1 =>
              obtain ⟨t1, e1⟩ := m_run_mono _ _ _ _ _ _ _ _ h1
              obtain ⟨t2, e2⟩ := m_run_mono _ _ _ _ _ _ _ _ h
              obtain ⟨a1, b1⟩ := m_szs_app e1
              obtain ⟨a2, b2⟩ := m_szs_app e2
              intro hg H locs la hW hS hL
              obtain ⟨a, hrun⟩ := m_callrun (cells := cells) (slots := slots) ih C hd hl hcl h1 hW hS hL.1 (by omega) (by omega)
              refine m_after hrun hS fun H1 locs1 hW1 hS1 => ?_
              exact ih mi (pc + 3) ls (v1.toList ++ r) w1 v w' h p e R s m args below meth c _ _ Q C cells' slots' (by omega) (by omega) hc hs k hg H1 locs1 la hW1 hS1 hL
            next => cases h
          next =>
            split at h
            next g pc' ls' st' w1 he =>
              have hg : g ≠ some false := by
                intro hg
                rw [hg] at h
                cases h
              split at h
              next => cases h
              next =>
                obtain ⟨t1, e1⟩ := m_exe_mono he
                obtain ⟨t2, e2⟩ := m_run_mono _ _ _ _ _ _ _ _ h
                obtain ⟨a1, b1⟩ := m_szs_app e1
                obtain ⟨a2, b2⟩ := m_szs_app e2
                refine m_exe_ok C hd hl he hg (by omega) (by omega) ?_
                exact ih mi pc' ls' st' w1 v w' h p e R s m args below meth c _ _ Q C cells' slots' (by omega) (by omega) hc hs k
            next => cases h
end
section
/-! what a run comes to, by blocks -/
def mWp (S : mS) (mi pc : Nat) (ls : mLs) (st : List Value) (w : mW) (Q : Option Value → mW → Prop) : Prop := ∃ n r w', m_run S n mi pc ls st w = some (r, w') ∧ Q r w'
def mFn (S : mS) (mi : Nat) (av : List Value) (w : mW) (r : Option Value) (w' : mW) : Prop := ∃ n, m_run S n mi 0 (m_ent mi av) [] w = some (r, w')
def mwp (S : mS) (mi : Nat) (Q : Option Value → mW → Prop) : List (Nat × Instr) → Nat → mLs → List Value → mW → Prop
  | [], pc, ls, st, w => mWp S mi pc ls st w Q
  | (p, i) :: is, pc, ls, st, w => match Nat.beq pc p with
    | false => False
    | true => match m_ret mi i st with
      | some (none, v) => Q v w
      | some (some g, v) => g = true ∧ Q v w
      | none => match m_cal mi i st w with
        | some _ => False
        | none => match m_exe S mi i pc ls st w with
          | some (none, pc', ls', st', w') => mwp S mi Q is pc' ls' st' w'
          | some (some g, pc', ls', st', w') => g = true ∧ mwp S mi Q is pc' ls' st' w'
          | none => False
def m_dec1 (mi : Nat) (p : Nat) (i : Instr) : Bool := match decode (m_cod mi) p with
  | .ok (j, len) => decide (j = i) && m_lenOk i len
  | .error _ => false
def m_dec (mi : Nat) (l : List (Nat × Instr)) : Bool := l.all fun q => m_dec1 mi q.1 q.2
theorem m_dec1_ok {mi p : Nat} {i : Instr} (h : m_dec1 mi p i = true) : ∃ len, decode (m_cod mi) p = .ok (i, len) ∧ m_lenOk i len = true := by
  unfold m_dec1 at h
  split at h
  next j len hd =>
    obtain ⟨h1, h2⟩ := Bool.and_eq_true_iff.mp h
    have h1 := of_decide_eq_true h1
    subst h1
    exact ⟨len, hd, h2⟩
  next => cases h
theorem m_run_more {S : mS} : ∀ (n : Nat) {mi pc : Nat} {ls : mLs} {st : List Value} {w : mW} {x : Option Value × mW}, m_run S n mi pc ls st w = some x → m_run S (n + 1) mi pc ls st w = some x := by
  intro n
  induction n with
  | zero => intro mi pc ls st w x h; cases h
  | succ n ih =>
    intro mi pc ls st w x h
    rw [m_run] at h ⊢
    split at h
    next => cases h
    next i len hd =>
      try rw [hd]
      try dsimp only
      split at h
      next => cases h
      next hl =>
        try rw [hl]
        try dsimp only
        split at h
        next g v0 hr =>
          try rw [hr]
          try dsimp only
          exact h
        next hr =>
          try rw [hr]
          try dsimp only
          split at h
          next m' av r hc =>
            try rw [hc]
            try dsimp only
            split at h
            next v1 w1 h1 =>
              rw [ih h1]
              try dsimp only
              exact ih h
            next => cases h
          next hc =>
            try rw [hc]
            try dsimp only
            split at h
            next g pc' ls' st' w1 he =>
              try rw [he]
              try dsimp only
              split at h
              next => cases h
              next hg =>
                exact ih h
            next => cases h
theorem m_run_le {S : mS} {n k mi pc : Nat} {ls : mLs} {st : List Value} {w : mW} {x : Option Value × mW} (h : m_run S n mi pc ls st w = some x) : m_run S (n + k) mi pc ls st w = some x := by
  induction k with
  | zero => exact h
  | succ k ih => exact m_run_more _ ih
theorem m_run_max {S : mS} {n k mi pc : Nat} {ls : mLs} {st : List Value} {w : mW} {x : Option Value × mW} (h : m_run S n mi pc ls st w = some x) (hk : n ≤ k) : m_run S k mi pc ls st w = some x := by
  obtain ⟨j, rfl⟩ : ∃ j, k = n + j := ⟨k - n, by omega⟩
  exact m_run_le h
theorem m_run_det {S : mS} {n k mi pc : Nat} {ls : mLs} {st : List Value} {w : mW} {x y : Option Value × mW} (h : m_run S n mi pc ls st w = some x) (h2 : m_run S k mi pc ls st w = some y) : x = y := by
  have a := m_run_max h (Nat.le_max_left n k)
  have b := m_run_max h2 (Nat.le_max_right n k)
  rw [a] at b
  exact Option.some.inj b
theorem mFn_det {S : mS} {mi : Nat} {av : List Value} {w w1 w2 : mW} {r1 r2 : Option Value} (h : mFn S mi av w r1 w1) (h2 : mFn S mi av w r2 w2) : r1 = r2 ∧ w1 = w2 := by
  obtain ⟨n, h⟩ := h
  obtain ⟨k, h2⟩ := h2
  have := m_run_det h h2
  cases this
  exact ⟨rfl, rfl⟩
theorem mFn_of {S : mS} {mi : Nat} {av : List Value} {w w' : mW} {r : Option Value} (h : mWp S mi 0 (m_ent mi av) [] w (fun r1 w1 => r1 = r ∧ w1 = w')) : mFn S mi av w r w' := by
  obtain ⟨n, r1, w1, h, rfl, rfl⟩ := h
  exact ⟨n, h⟩
theorem mFn_ex {S : mS} {mi : Nat} {av : List Value} {w : mW} {Q : Option Value → mW → Prop} (h : mWp S mi 0 (m_ent mi av) [] w Q) : ∃ r w', mFn S mi av w r w' ∧ Q r w' := by
  obtain ⟨n, r1, w1, h, hq⟩ := h
  exact ⟨r1, w1, ⟨n, h⟩, hq⟩
theorem mWp_mono {S : mS} {mi pc : Nat} {ls : mLs} {st : List Value} {w : mW} {Q Q' : Option Value → mW → Prop} (h : mWp S mi pc ls st w Q) (hq : ∀ r w', Q r w' → Q' r w') : mWp S mi pc ls st w Q' := by
  obtain ⟨n, r, w', h1, h2⟩ := h
  exact ⟨n, r, w', h1, hq _ _ h2⟩
theorem mWp_blk {S : mS} {mi : Nat} {Q : Option Value → mW → Prop} : ∀ (l : List (Nat × Instr)) {pc : Nat} {ls : mLs} {st : List Value} {w : mW}, m_dec mi l = true → (mwp S mi Q l pc ls st w) → mWp S mi pc ls st w Q
  | [], _, _, _, _, _, h => h
  | (p, i) :: is, pc, ls, st, w, hd, h => by
    obtain ⟨hd1, hd2⟩ := Bool.and_eq_true_iff.mp (show (m_dec1 mi p i && m_dec mi is) = true from hd)
    obtain ⟨len, hd, hl⟩ := m_dec1_ok hd1
    unfold mwp at h
    split at h
    next => exact absurd h (fun h => h)
    next hp =>
      have hp := Nat.eq_of_beq_eq_true hp
      subst hp
      have go : ∀ (n : Nat) (r : Option Value) (w' : mW), (m_run S (n + 1) mi pc ls st w = some (r, w')) → Q r w' → mWp S mi pc ls st w Q := fun n r w' h1 h2 => ⟨n + 1, r, w', h1, h2⟩
      split at h
      next v hr =>
        exact go 0 v w (by rw [m_run, hd]; simp only [hl, hr]) h
      next g v hr =>
        exact go 0 v w (by rw [m_run, hd]; simp only [hl, hr, h.1]) h.2
      next hr =>
        split at h
        next => exact absurd h (fun h => h)
        next hc =>
          split at h
          next pc' ls' st' w' he =>
            obtain ⟨n, r, w2, h1, h2⟩ := mWp_blk is hd2 h
            exact go n r w2 (by rw [m_run, hd]; simp only [hl, hr, hc, he]; exact h1) h2
          next g pc' ls' st' w' he =>
            obtain ⟨hg, h⟩ := h
            subst hg
            obtain ⟨n, r, w2, h1, h2⟩ := mWp_blk is hd2 h
            exact go n r w2 (by rw [m_run, hd]; simp only [hl, hr, hc, he]; exact h1) h2
          next => exact absurd h (fun h => h)
theorem mWp_call {S : mS} {mi m' pc : Nat} {i : Instr} {ls : mLs} {st av rest : List Value} {w w' : mW} {r : Option Value} {Q : Option Value → mW → Prop} (hd : m_dec1 mi pc i = true) (hc : m_ret mi i st = none ∧ m_cal mi i st w = some (m', av, rest)) (hf : mFn S m' av w r w')
    (h : mWp S mi (pc + 3) ls (r.toList ++ rest) w' Q) : mWp S mi pc ls st w Q := by
  obtain ⟨len, hd, hl⟩ := m_dec1_ok hd
  obtain ⟨n, hf⟩ := hf
  obtain ⟨k, r2, w2, h1, h2⟩ := h
  refine ⟨max n k + 1, r2, w2, ?_, h2⟩
  rw [m_run, hd]
  simp only [hl, hc.1, hc.2, m_run_max hf (Nat.le_max_left n k)]
  exact m_run_max h1 (Nat.le_max_right n k)
theorem mWp_ite {S : mS} {mi a b : Nat} {ls : mLs} {st : List Value} {w : mW} {Q : Option Value → mW → Prop} {c : Prop} [Decidable c] (h1 : c → mWp S mi a ls st w Q) (h2 : ¬ c → mWp S mi b ls st w Q) : mWp S mi (if c then a else b) ls st w Q := by
  by_cases h : c
  · rw [if_pos h]; exact h1 h
  · rw [if_neg h]; exact h2 h
end
section
/-! THE CLAIM OUT OF ONE WALK OF THE LAW'S BODY. Your part is whole_start (and what it stands on); all else here is the same for every law, but numbers. -/
def R_law : String := "MillSailsLaw"
def lw_P (b : Addr) (xs : List Int32) (args : Array Value) (s : State) : Prop := args = #[.ref b] ∧ s.IntsAt b xs ∧ xs.length ≤ 320 ∧ (Jvm.Cond.and given_1 narrow_1).before args s = true
def lw_Q (_ : Array Value) (s : State) (o : Outcome) (t : State) : Prop := o = .returned (some (.int 1)) ∧ Framed s o t [] 600000 7302250
def lw_Z (below : List Frame) (a : Array Value) (s : State) : State → Prop := fun t => ∃ o, t.status = .running ∧ Ended t below o ∧ lw_Q a s o t
/-- the law's own end, with 1 on the stack, nothing written that was there before, its room as the claim has it -/
theorem lw_ret {p : Program} {l : Launch} {e : Env} {s : State} {m : MethodId} {below : List Frame} {meth : Method} {c : Code} {b : Nat} (hx : p.tables.exec = Jvm.exec) (hb : c.code = code) (hr : meth.sig.returnType = ret) (hlocks : meth.locks = false) {pc : Nat} {H : Heap} {ls : Array Slot} (hdg : decode code pc = .ok (.ireturn, 1)) : W p l e room_1 s m #[Value.ref b] below meth c H [] 600000 7302250 (lw_Z below #[Value.ref b] s) (F0 m pc ls [.int 1]) := by
  intro T hT X
  obtain ⟨fs, hret, hrun, hended, hW, hframe⟩ := X.leave (v := some (.int 1)) (hlocks := hlocks) (fun h => by rw [hr] at h; cases h)
  have hmeth' : T.vm.method? m = some meth := X.method'
  refine ⟨T.setFrames fs, ?_, .returned (some (.int 1)), hrun, hended, rfl, ⟨_, rfl⟩, hW, hframe⟩
  jvm_step X.here [X.here.top, hx, hb, hdg, hmeth', hr, ret, narrow_b1]
  (try refine ⟨rfl, ?_⟩); (try refine ⟨rfl, ?_⟩)
  first | (intro acts; rw [hret _ acts rfl rfl rfl]) | rw [hret _ _ rfl rfl rfl]
  exact Steps.refl _
/-- what holds at the law's entry: the machine, the code, the tables' words (any of lw_tbl by 'hts w (by decide +kernel)'), the script of L ints xs at the cell b, what the Statement gives of the start (any of its parts by flat_of_before) -/
def lw_At (p : Program) (s : State) (m : MethodId) (meth : Method) (c : Code) (b L : Nat) (xs : Nat → Int32) : Prop :=
  p.tables.exec = Jvm.exec ∧ c.code = code ∧ meth.sig.returnType = ret ∧ c.maxLocals = 4 ∧ s.vm.findClass R_law = some m.cls ∧ (∀ w ∈ lw_tbl, w.before #[Value.ref b] s = true) ∧ va_X b L xs s s.heap ∧ b < s.heap.size ∧ meth.locks = false ∧ (Jvm.Cond.and given_1 narrow_1).before #[Value.ref b] s = true
/-- the empty world -/
def m_w0 : mW := ([], fun _ _ => 0, fun _ _ => 0, fun _ _ => none)
/-- what the law's run must be: for every script -/
def m_goal : Prop := ∀ (L : Nat) (xs : Nat → Int32), L ≤ 320 → ∃ (n : Nat) (w' : mW), m_run (L, xs) n 146 0 (m_ent 146 [.ref 0]) [] m_w0 = some (some (.int 1), w') ∧ w'.1.length ≤ 600000 ∧ m_szs w' ≤ 7302250
theorem m_arr_at {s : State} {args : Array Value} {ty : FieldType} (h : (Cond.arrayClass ty).before args s = true) (hr : ∀ x : ClassId, s.vm.findClass ("[" ++ ty.toString) = some x → va_RA s x ty) : ∃ x, ArrOfT s x ty ∧ va_RA s x ty := by
  obtain ⟨c, k, comp, h1, h2, h3⟩ := Cond.arrayClass_spec h
  exact ⟨c, fun n z => ⟨(fun k h => by cases h), k, h2, comp, h3⟩, hr c h1⟩
set_option maxHeartbeats 4000000 in
set_option maxRecDepth 100000 in
theorem m_start (hgoal : m_goal) {p : Program} {e : Env} {s : State} {m : MethodId} {below : List Frame} {meth : Method} {c : Code} (l : Launch) {b L : Nat} {xs : Nat → Int32} (hL : L ≤ 320) (C0 : lw_At p s m meth c b L xs) : W p l e room_1 s m #[Value.ref b] below meth c s.heap [] 0 0 (lw_Z below #[Value.ref b] s) (entryFrame m ([Value.ref b] : List Value).toArray 4) := by
  obtain ⟨hx, hb, hr, hml, hown, hts, hX, hbl, hlocks, hgv⟩ := C0
  obtain ⟨n, w', hrun, hlen, hszs⟩ := hgoal L xs hL
  have htg : ∀ w ∈ m_gw, w.before #[Value.ref b] s = true := fun w h => hts w (List.mem_filter.mp h).1
  have hcls : ∀ ci : Nat, ∃ (cC : ClassId) (iS : Nat → Nat), ci < 7 → u_Kn s (m_C ci) (m_T ci) (m_N ci) cC iS := by
    intro ci
    by_cases h : ci < 7
    · obtain ⟨h1, h2, h3, h4, h5, h6⟩ := m_cl_ok h
      obtain ⟨cC, iS, hk⟩ := u_known (C := m_C ci) (T := m_T ci) (N := m_N ci) htg h2 (htg _ h5)
      exact ⟨cC, iS, fun _ => hk⟩
    · exact ⟨0, fun _ => 0, fun h2 => absurd h2 h⟩
  obtain ⟨c7, h7⟩ := m_arr_at (htg _ m_ac_char) (fun x h => h)
  obtain ⟨c8, h8⟩ := m_arr_at (htg _ m_ac_int) (fun x h => h)
  obtain ⟨c9, h9⟩ := m_arr_at (htg _ m_ac_long) (fun x h => h)
  obtain ⟨c10, h10⟩ := m_arr_at (htg _ m_ac_boolean) (fun x h => h)
  obtain ⟨c11, h11⟩ : ∃ x, ArrOfT s x (.object RX1) ∧ va_RA s x (.object RX1) := by
    obtain ⟨comp, cc, k, h1, h2, h3, h4, h5⟩ := Cond.arrayOver_spec (hts _ m_ao_ok)
    exact ⟨cc, fun n z => ⟨(fun k h => by cases h), k, h3, comp, h4⟩, k, comp, h3, h4, h1, h5⟩
  let cA : Nat → ClassId := fun k => if k = 7 then c7 else if k = 8 then c8 else if k = 9 then c9 else if k = 10 then c10 else c11
  let D : va_G := (fun ci => Classical.choose (hcls ci), fun ci => Classical.choose (Classical.choose_spec (hcls ci)))
  have hK : va_K D vwCl (m_tyl cA) s := by
    refine ⟨fun ci q hq => ?_, fun k q hq => ?_⟩
    · have hci : ci < 7 := (List.getElem?_eq_some_iff.mp hq).1
      have h1 := (m_cl_ok hci).1
      rw [hq] at h1
      cases h1
      exact Classical.choose_spec (Classical.choose_spec (hcls ci)) hci
    · match k, hq with
      | 0, hq => cases hq; exact h7
      | 1, hq => cases hq; exact h8
      | 2, hq => cases hq; exact h9
      | 3, hq => cases hq; exact h10
      | 4, hq => cases hq; exact h11
      | k + 5, hq => simp [m_tyl] at hq
  have hSx : m_Sx (L, xs) s.heap.size b cA D s := ⟨hK, fun w hw => va_Nw.of (by
      unfold m_nw at hw
      simp only [List.mem_cons, List.not_mem_nil, or_false] at hw
      rcases hw with rfl | rfl | rfl | rfl | rfl | rfl <;> rfl) (hts w (m_nw_ok w hw)), va_AO.of (A := #[Value.ref b]) (hts _ m_ao_ok), hX, hbl, Nat.le_refl _⟩
  have C : m_Cx (L, xs) s.heap.size b cA D 146 p room_1 s m #[Value.ref b] meth c := ⟨hx, hb, hml, hown, htg, hSx, fun h => absurd h (by decide +kernel), by decide, by decide⟩
  rw [lg_entry_eq]
  refine m_sound (L, xs) s.heap.size b cA D l n 146 0 _ [] m_w0 _ w' hrun p e room_1 s m _ below meth c 0 0 _ C _ _ rfl rfl ?_ ?_ ?_ (m_ent_lgo (by decide)) s.heap [] _ ⟨rfl, fun k q h => ?_⟩ va_S.rf (m_ent_has (B := s.heap.size) (b := b) (mi := 146) (vs := [.ref 0]) (by decide))
  · show 0 + (w'.1.length - 0) ≤ 600000
    omega
  · show 0 + (m_szs w' - 0) ≤ 7302250
    omega
  · intro pc' la' H' locs' hret hW' hS'
    refine va_forget (fun q hq => hS'.2.2 q hq) ?_
    refine W.widen (k := 600000) (n := 7302250) ?_ ?_ ?_
    · show 0 + (w'.1.length - 0) ≤ 600000
      omega
    · show 0 + (m_szs w' - 0) ≤ 7302250
      omega
    · exact lw_ret hx hb hr hlocks hret.1
  · exact absurd h (by simp [m_wl, m_w0])
end
section
theorem m_goal_ok : m_goal := sorry
theorem whole_start {p : Program} {e : Env} {s : State} {m : MethodId} {below : List Frame} {meth : Method} {c : Code} (l : Launch) (hflags : l.flags = flags0) {b L : Nat} {xs : Nat → Int32} (hL : L ≤ 320) (C0 : lw_At p s m meth c b L xs) : W p l e room_1 s m #[Value.ref b] below meth c s.heap [] 0 0 (lw_Z below #[Value.ref b] s) (entryFrame m ([Value.ref b] : List Value).toArray 4) := m_start m_goal_ok l hL C0
set_option maxHeartbeats 4000000 in
theorem lw_walk (l : Launch) (hflags : l.flags = flags0) (b : Addr) (xs : List Int32) : MetFree l x (headSpec (Jvm.Cond.code x code maxLocals ret :: tables_1) room_1) (lw_P b xs) (fun _ _ _ _ _ => True) lw_Q := by
  refine MetFree.of_bodyS (code := code) (maxLocals := maxLocals) (ret := ret) (by decide) ?_ ?_
  · intro args s m h hn
    obtain ⟨meth, c, h1, h2, h3, h4, h5, h6, -, -⟩ := Cond.code_spec hn (atoms_spec (ws := Jvm.Cond.code x code maxLocals ret :: tables_1) h _ List.mem_cons_self)
    exact ⟨meth, c, h1, h2, h3, h4, h5, h6⟩
  · intro p e s m args below meth c s₁ B hml0 hP _
    obtain ⟨rfl, hx, hbd, hgv⟩ := hP
    obtain ⟨scr, harrAt, hlist, hof, hsmall⟩ := hx
    obtain ⟨hcb, hkn, -, -⟩ := State.arrayAt?_spec harrAt
    have hown : s.vm.findClass R_law = some m.cls := findClass_of_methodNamed B.named
    have hts0 : ∀ c ∈ (Jvm.Cond.code x code maxLocals ret :: tables_1), c.before #[Value.ref b] s = true := atoms_spec (ws := Jvm.Cond.code x code maxLocals ret :: tables_1) B.pre
    have hts : ∀ w ∈ lw_tbl, w.before #[Value.ref b] s = true := k2_hts_sels lw_privs (fun w hw => hts0 w (List.mem_cons_of_mem _ hw)) lw_privs_ok
    have hml : c.maxLocals = 4 := B.maxLocals_eq (hts0 _ List.mem_cons_self)
    have X₀ : Stand p l e room_1 s m #[Value.ref b] below meth c s₁ [] 0 0 := Stand.of_body B
    have hh0 : s₁.heap = s.heap := by rw [B.state]; rfl
    have hsz : scr.slots.size = xs.length := by rw [← Array.length_toList, hlist, List.length_map]
    have hval : ∀ j : Nat, j < xs.length → scr.slots[j]? = some (.int (xs.getD j 0)) := fun j hj => by
      rw [← Array.getElem?_toList, hlist]
      simp [hj]
    have hbl : b < s.heap.size := (Array.getElem?_eq_some_iff.mp hcb).1
    have hX : va_X b xs.length (fun j => xs.getD j 0) s s.heap := ⟨scr, hcb, hof, hkn, hsz, hval⟩
    have K : W p l e room_1 s m #[Value.ref b] below meth c s₁.heap [] 0 0 (lw_Z below #[Value.ref b] s) (entryFrame m ([Value.ref b] : List Value).toArray 4) := by
      rw [hh0]
      exact whole_start l hflags hbd ⟨B.exec, B.bytes, B.returns, hml, hown, hts, hX, hbl, B.notSynchronized, hgv⟩
    obtain ⟨t, a1, o, b1, b2, b3⟩ := K s₁ rfl X₀
    exact ⟨t, o, a1, b1, b2, b3⟩
theorem lw_pre_spec {args : Array Value} {s : State} (h : (Jvm.Cond.and given_1 narrow_1).before args s = true) (hr : rest_1_c.before args s = true) : ∃ (b : Addr) (xs : List Int32), lw_P b xs args s := by
  have hs := flat_of_before _ h
  have hq := flat_of_before _ hr
  have hc : (Cond.count 1).before args s = true := hs _ (by decide +kernel)
  have harr : (Cond.arrayOf (.arg 0) .int).before args s = true := hs _ (by decide +kernel)
  have hle : (Cond.le (.length (.arg 0)) (.int 320)).before args s = true := hs _ (by decide +kernel)
  have hlen : (Cond.isInt (.length (.arg 0))).before args s = true := hq _ (by decide +kernel)
  have hall : (Cond.all (.arg 0) (.isInt (.elem (.arg 0) (.index 0)))).before args s = true := hq _ (by decide +kernel)
  obtain ⟨b, xs, hb, hx⟩ := State.ints_of_pre rfl harr hlen hall
  have hsm : xs.length < 2 ^ 31 := hx.choose_spec.2.2.2
  have hev : (Term.length (.arg 0)).eval args s none [] s = some (.int xs.length.toInt32) := hx.length_eval hb
  have hv := Cond.le_ints hev (show (Term.int 320).eval args s none [] s = some (.int 320) from rfl)
  have hd : xs.length.toInt32 ≤ 320 := by
    simpa [Cond.before, Cond.holds, hv] using hle
  have hN : xs.length ≤ 320 := (Int32.ofNat_le_ofNat hsm (by decide)).mp (show Int32.ofNat xs.length ≤ Int32.ofNat 320 from hd)
  exact ⟨b, xs, Cond.one_arg hc (show args[0]? = some (.ref b) from hb), hx, hN, h⟩
theorem lw_comes (l : Launch) (hflags : l.flags = flags0) : Comes l x (Jvm.Cond.code x code maxLocals ret :: tables_1) room_1 (fun tb e args s => Calls_1 tb e args s ∧ rest_1 tb e args s ∧ Pre_1 tb e args s)
    (fun _ _ args s o t => lw_Q args s o t) := by
  intro p e ha hc hk s m args below hf hfit hheap happ hpre
  obtain ⟨b, xs, hP⟩ := lw_pre_spec hpre.2.2 hpre.2.1
  obtain ⟨k, o, h1, h2, h3, hQ⟩ := lw_walk l hflags b xs p e ha hc hk s m args below hf ((Spec.applies_iff_loose hf).mp happ).1 hP trivial
  exact ⟨k, o, h1, h2, h3, hQ⟩
theorem lw_frame {s t : State} {o : Outcome} {args : Array Value} (h : Framed s o t [] 600000 7302250) :
    Framed s o t (fieldLocs frame_1_writes args s ++ arrayLocs frame_1_arrays args s ++ staticLocs frame_1_statics s) 600000 7302250 := h
theorem lw_limb (L : Cond) (hL : ∀ (args : Array Value) (s t : State), L.after args s (.returned (some (.int 1))) t = true) :
    ArmFor flags0 classFile x code maxLocals ret World_1 tables_1 room_1 Calls_1 rest_1 Pre_1
      (fun tb e a s o t => postC L tb e a s o t ∧ Framed s o t (fieldLocs frame_1_writes a s ++ arrayLocs frame_1_arrays a s ++ staticLocs frame_1_statics s) 600000 7302250) := by
  intro l hflags _ _ p e ha hc hk s m args below hf hfit hheap happ hpre
  obtain ⟨k, o, h1, h2, h3, rfl, hF⟩ := lw_comes l hflags p e ha hc hk s m args below hf hfit hheap happ hpre
  exact ⟨k, _, h1, h2, h3, hL args s _, lw_frame hF⟩
theorem i_vc : Claimed_1_1 ∧ Claimed_1_2 := ⟨lw_limb limb_1_1 (fun args s t => by simp [limb_1_1, Cond.after, Cond.holds, Cond.value]), lw_limb limb_1_2 (fun args s t => Cond.after_iff.mpr (by
  first | (rw [show limb_1_2 = Cond.eq .result (.int 1) from rfl, Cond.eq_ints (x := 1) (y := 1) rfl rfl]; simp; done) | (simp [limb_1_2, Cond.value, Term.eval]; done)))⟩
end
