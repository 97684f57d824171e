section
-- ===== PART A: goes FIRST, ahead of the names: the tables' words, and 'selects' of the private methods out of them =====
/-- a private method of a class that the tables say can be made, by its rows of tables_1 -/
def lw_okq (q : MethodName × Nat) : Prop := (q.1.cls ≠ "java/lang/invoke/MethodHandle" ∧ q.1.cls ≠ "java/lang/invoke/VarHandle") ∧ Cond.instantiable q.1.cls q.2 ∈ tables_1 ∧ Cond.privateMethod q.1 ∈ tables_1 ∧ Cond.instanceMethod q.1 ∈ tables_1
theorem lw_p0 : lw_okq (⟨"CutTreeKeeper", "pairError", "(II)I"⟩, 4) := ⟨⟨by decide +kernel, by decide +kernel⟩, List.mem_of_getElem? (i := 12) (by decide +kernel), List.mem_of_getElem? (i := 152) (by decide +kernel), List.mem_of_getElem? (i := 153) (by decide +kernel)⟩
theorem lw_p1 : lw_okq (⟨"CutTreeKeeper", "freshen", "()V"⟩, 4) := ⟨⟨by decide +kernel, by decide +kernel⟩, List.mem_of_getElem? (i := 12) (by decide +kernel), List.mem_of_getElem? (i := 222) (by decide +kernel), List.mem_of_getElem? (i := 223) (by decide +kernel)⟩
theorem lw_p2 : lw_okq (⟨"CutTreeKeeper", "buildAnew", "()V"⟩, 4) := ⟨⟨by decide +kernel, by decide +kernel⟩, List.mem_of_getElem? (i := 12) (by decide +kernel), List.mem_of_getElem? (i := 230) (by decide +kernel), List.mem_of_getElem? (i := 231) (by decide +kernel)⟩
theorem lw_p3 : lw_okq (⟨"CutTreeKeeper$NearCutFinder", "findPath", "(II)Z"⟩, 5) := ⟨⟨by decide +kernel, by decide +kernel⟩, List.mem_of_getElem? (i := 70) (by decide +kernel), List.mem_of_getElem? (i := 246) (by decide +kernel), List.mem_of_getElem? (i := 247) (by decide +kernel)⟩
theorem lw_p4 : lw_okq (⟨"CutTreeKeeper$NearCutFinder", "narrowest", "(II)I"⟩, 5) := ⟨⟨by decide +kernel, by decide +kernel⟩, List.mem_of_getElem? (i := 70) (by decide +kernel), List.mem_of_getElem? (i := 254) (by decide +kernel), List.mem_of_getElem? (i := 255) (by decide +kernel)⟩
theorem lw_p5 : lw_okq (⟨"CutTreeKeeper$NearCutFinder", "sendAlong", "(III)V"⟩, 5) := ⟨⟨by decide +kernel, by decide +kernel⟩, List.mem_of_getElem? (i := 70) (by decide +kernel), List.mem_of_getElem? (i := 260) (by decide +kernel), List.mem_of_getElem? (i := 261) (by decide +kernel)⟩
theorem lw_p6 : lw_okq (⟨"CutTreeKeeper$CutTree", "splitOff", "(III)V"⟩, 7) := ⟨⟨by decide +kernel, by decide +kernel⟩, List.mem_of_getElem? (i := 64) (by decide +kernel), List.mem_of_getElem? (i := 265) (by decide +kernel), List.mem_of_getElem? (i := 266) (by decide +kernel)⟩
theorem lw_p7 : lw_okq (⟨"CutTreeKeeper$CutTree", "hasParent", "(I)Z"⟩, 7) := ⟨⟨by decide +kernel, by decide +kernel⟩, List.mem_of_getElem? (i := 64) (by decide +kernel), List.mem_of_getElem? (i := 270) (by decide +kernel), List.mem_of_getElem? (i := 271) (by decide +kernel)⟩
theorem lw_p8 : lw_okq (⟨"CutTreeKeeper$CutTree", "collectSides", "()V"⟩, 7) := ⟨⟨by decide +kernel, by decide +kernel⟩, List.mem_of_getElem? (i := 64) (by decide +kernel), List.mem_of_getElem? (i := 274) (by decide +kernel), List.mem_of_getElem? (i := 275) (by decide +kernel)⟩
theorem lw_p9 : lw_okq (⟨"CutTreeKeeper", "storedNodeError", "(I)I"⟩, 4) := ⟨⟨by decide +kernel, by decide +kernel⟩, List.mem_of_getElem? (i := 12) (by decide +kernel), List.mem_of_getElem? (i := 289) (by decide +kernel), List.mem_of_getElem? (i := 290) (by decide +kernel)⟩
theorem lw_p10 : lw_okq (⟨"CutTreeKeeper", "storedPairError", "(II)I"⟩, 4) := ⟨⟨by decide +kernel, by decide +kernel⟩, List.mem_of_getElem? (i := 12) (by decide +kernel), List.mem_of_getElem? (i := 316) (by decide +kernel), List.mem_of_getElem? (i := 317) (by decide +kernel)⟩
theorem lw_p11 : lw_okq (⟨"CutTreeKeeper$CutTree", "leastLabel", "(II)I"⟩, 7) := ⟨⟨by decide +kernel, by decide +kernel⟩, List.mem_of_getElem? (i := 64) (by decide +kernel), List.mem_of_getElem? (i := 324) (by decide +kernel), List.mem_of_getElem? (i := 325) (by decide +kernel)⟩
theorem lw_p12 : lw_okq (⟨"CutTreeKeeper$CutTree", "lightestOnWay", "(II)I"⟩, 7) := ⟨⟨by decide +kernel, by decide +kernel⟩, List.mem_of_getElem? (i := 64) (by decide +kernel), List.mem_of_getElem? (i := 340) (by decide +kernel), List.mem_of_getElem? (i := 341) (by decide +kernel)⟩
theorem lw_p13 : lw_okq (⟨"CutTreeKeeper$CutTree", "placeOnWay", "(II)I"⟩, 7) := ⟨⟨by decide +kernel, by decide +kernel⟩, List.mem_of_getElem? (i := 64) (by decide +kernel), List.mem_of_getElem? (i := 344) (by decide +kernel), List.mem_of_getElem? (i := 345) (by decide +kernel)⟩
theorem lw_p14 : lw_okq (⟨"CutTreeKeeper", "makeBoundsMeet", "(II)V"⟩, 4) := ⟨⟨by decide +kernel, by decide +kernel⟩, List.mem_of_getElem? (i := 12) (by decide +kernel), List.mem_of_getElem? (i := 358) (by decide +kernel), List.mem_of_getElem? (i := 359) (by decide +kernel)⟩
theorem lw_p15 : lw_okq (⟨"CutTreeKeeper$CutTree", "lighterThan", "(I)I"⟩, 7) := ⟨⟨by decide +kernel, by decide +kernel⟩, List.mem_of_getElem? (i := 64) (by decide +kernel), List.mem_of_getElem? (i := 385) (by decide +kernel), List.mem_of_getElem? (i := 386) (by decide +kernel)⟩
def lw_privs_1 : List (MethodName × Nat) := [(⟨"CutTreeKeeper", "pairError", "(II)I"⟩, 4), (⟨"CutTreeKeeper", "freshen", "()V"⟩, 4), (⟨"CutTreeKeeper", "buildAnew", "()V"⟩, 4), (⟨"CutTreeKeeper$NearCutFinder", "findPath", "(II)Z"⟩, 5), (⟨"CutTreeKeeper$NearCutFinder", "narrowest", "(II)I"⟩, 5), (⟨"CutTreeKeeper$NearCutFinder", "sendAlong", "(III)V"⟩, 5), (⟨"CutTreeKeeper$CutTree", "splitOff", "(III)V"⟩, 7), (⟨"CutTreeKeeper$CutTree", "hasParent", "(I)Z"⟩, 7), (⟨"CutTreeKeeper$CutTree", "collectSides", "()V"⟩, 7), (⟨"CutTreeKeeper", "storedNodeError", "(I)I"⟩, 4), (⟨"CutTreeKeeper", "storedPairError", "(II)I"⟩, 4), (⟨"CutTreeKeeper$CutTree", "leastLabel", "(II)I"⟩, 7), (⟨"CutTreeKeeper$CutTree", "lightestOnWay", "(II)I"⟩, 7), (⟨"CutTreeKeeper$CutTree", "placeOnWay", "(II)I"⟩, 7), (⟨"CutTreeKeeper", "makeBoundsMeet", "(II)V"⟩, 4), (⟨"CutTreeKeeper$CutTree", "lighterThan", "(I)I"⟩, 7)]
theorem lw_r1 : ∀ q ∈ lw_privs_1, lw_okq q := List.forall_mem_cons.mpr ⟨lw_p0, List.forall_mem_cons.mpr ⟨lw_p1, List.forall_mem_cons.mpr ⟨lw_p2, List.forall_mem_cons.mpr ⟨lw_p3, List.forall_mem_cons.mpr ⟨lw_p4, List.forall_mem_cons.mpr ⟨lw_p5, List.forall_mem_cons.mpr ⟨lw_p6, List.forall_mem_cons.mpr ⟨lw_p7, List.forall_mem_cons.mpr ⟨lw_p8, List.forall_mem_cons.mpr ⟨lw_p9, List.forall_mem_cons.mpr ⟨lw_p10, List.forall_mem_cons.mpr ⟨lw_p11, List.forall_mem_cons.mpr ⟨lw_p12, List.forall_mem_cons.mpr ⟨lw_p13, List.forall_mem_cons.mpr ⟨lw_p14, List.forall_mem_cons.mpr ⟨lw_p15, fun _ h => absurd h List.not_mem_nil⟩⟩⟩⟩⟩⟩⟩⟩⟩⟩⟩⟩⟩⟩⟩⟩
theorem lw_p16 : lw_okq (⟨"CutTreeKeeperModel", "twoBarred", "(II)I"⟩, 14) := ⟨⟨by decide +kernel, by decide +kernel⟩, List.mem_of_getElem? (i := 421) (by decide +kernel), List.mem_of_getElem? (i := 481) (by decide +kernel), List.mem_of_getElem? (i := 482) (by decide +kernel)⟩
theorem lw_p17 : lw_okq (⟨"CutTreeKeeperModel", "noNode", "(I)Z"⟩, 14) := ⟨⟨by decide +kernel, by decide +kernel⟩, List.mem_of_getElem? (i := 421) (by decide +kernel), List.mem_of_getElem? (i := 485) (by decide +kernel), List.mem_of_getElem? (i := 486) (by decide +kernel)⟩
theorem lw_p18 : lw_okq (⟨"CutTreeKeeperModel", "keepChange", "(III)V"⟩, 14) := ⟨⟨by decide +kernel, by decide +kernel⟩, List.mem_of_getElem? (i := 421) (by decide +kernel), List.mem_of_getElem? (i := 489) (by decide +kernel), List.mem_of_getElem? (i := 490) (by decide +kernel)⟩
theorem lw_p19 : lw_okq (⟨"CutTreeKeeperModel", "putCapacity", "(III)V"⟩, 14) := ⟨⟨by decide +kernel, by decide +kernel⟩, List.mem_of_getElem? (i := 421) (by decide +kernel), List.mem_of_getElem? (i := 493) (by decide +kernel), List.mem_of_getElem? (i := 494) (by decide +kernel)⟩
theorem lw_p20 : lw_okq (⟨"CutTreeKeeperModel", "pairs", "()I"⟩, 14) := ⟨⟨by decide +kernel, by decide +kernel⟩, List.mem_of_getElem? (i := 421) (by decide +kernel), List.mem_of_getElem? (i := 509) (by decide +kernel), List.mem_of_getElem? (i := 510) (by decide +kernel)⟩
theorem lw_p21 : lw_okq (⟨"CutTreeKeeperModel", "isCut", "(I)Z"⟩, 14) := ⟨⟨by decide +kernel, by decide +kernel⟩, List.mem_of_getElem? (i := 421) (by decide +kernel), List.mem_of_getElem? (i := 517) (by decide +kernel), List.mem_of_getElem? (i := 518) (by decide +kernel)⟩
theorem lw_p22 : lw_okq (⟨"CutTreeKeeperModel", "full", "()I"⟩, 14) := ⟨⟨by decide +kernel, by decide +kernel⟩, List.mem_of_getElem? (i := 421) (by decide +kernel), List.mem_of_getElem? (i := 521) (by decide +kernel), List.mem_of_getElem? (i := 522) (by decide +kernel)⟩
theorem lw_p23 : lw_okq (⟨"CutTreeKeeperModel", "weigh", "(I)I"⟩, 14) := ⟨⟨by decide +kernel, by decide +kernel⟩, List.mem_of_getElem? (i := 421) (by decide +kernel), List.mem_of_getElem? (i := 525) (by decide +kernel), List.mem_of_getElem? (i := 526) (by decide +kernel)⟩
theorem lw_p24 : lw_okq (⟨"CutTreeKeeperModel", "freshen", "()V"⟩, 14) := ⟨⟨by decide +kernel, by decide +kernel⟩, List.mem_of_getElem? (i := 421) (by decide +kernel), List.mem_of_getElem? (i := 536) (by decide +kernel), List.mem_of_getElem? (i := 537) (by decide +kernel)⟩
theorem lw_p25 : lw_okq (⟨"CutTreeKeeperModel", "isNew", "()Z"⟩, 14) := ⟨⟨by decide +kernel, by decide +kernel⟩, List.mem_of_getElem? (i := 421) (by decide +kernel), List.mem_of_getElem? (i := 540) (by decide +kernel), List.mem_of_getElem? (i := 541) (by decide +kernel)⟩
theorem lw_p26 : lw_okq (⟨"CutTreeKeeperModel", "makeTree", "()V"⟩, 14) := ⟨⟨by decide +kernel, by decide +kernel⟩, List.mem_of_getElem? (i := 421) (by decide +kernel), List.mem_of_getElem? (i := 544) (by decide +kernel), List.mem_of_getElem? (i := 545) (by decide +kernel)⟩
theorem lw_p27 : lw_okq (⟨"CutTreeKeeperModel", "layWeights", "()V"⟩, 14) := ⟨⟨by decide +kernel, by decide +kernel⟩, List.mem_of_getElem? (i := 421) (by decide +kernel), List.mem_of_getElem? (i := 548) (by decide +kernel), List.mem_of_getElem? (i := 549) (by decide +kernel)⟩
theorem lw_p28 : lw_okq (⟨"CutTreeKeeperModel", "joinNode", "(I)V"⟩, 14) := ⟨⟨by decide +kernel, by decide +kernel⟩, List.mem_of_getElem? (i := 421) (by decide +kernel), List.mem_of_getElem? (i := 552) (by decide +kernel), List.mem_of_getElem? (i := 553) (by decide +kernel)⟩
theorem lw_p29 : lw_okq (⟨"CutTreeKeeperModel", "findNear", "(II)V"⟩, 14) := ⟨⟨by decide +kernel, by decide +kernel⟩, List.mem_of_getElem? (i := 421) (by decide +kernel), List.mem_of_getElem? (i := 556) (by decide +kernel), List.mem_of_getElem? (i := 557) (by decide +kernel)⟩
theorem lw_p30 : lw_okq (⟨"CutTreeKeeperModel", "nodeBarred", "(I)I"⟩, 14) := ⟨⟨by decide +kernel, by decide +kernel⟩, List.mem_of_getElem? (i := 421) (by decide +kernel), List.mem_of_getElem? (i := 568) (by decide +kernel), List.mem_of_getElem? (i := 569) (by decide +kernel)⟩
theorem lw_p31 : lw_okq (⟨"CutTreeKeeperModel", "sideOf", "(I)I"⟩, 14) := ⟨⟨by decide +kernel, by decide +kernel⟩, List.mem_of_getElem? (i := 421) (by decide +kernel), List.mem_of_getElem? (i := 580) (by decide +kernel), List.mem_of_getElem? (i := 581) (by decide +kernel)⟩
def lw_privs_2 : List (MethodName × Nat) := [(⟨"CutTreeKeeperModel", "twoBarred", "(II)I"⟩, 14), (⟨"CutTreeKeeperModel", "noNode", "(I)Z"⟩, 14), (⟨"CutTreeKeeperModel", "keepChange", "(III)V"⟩, 14), (⟨"CutTreeKeeperModel", "putCapacity", "(III)V"⟩, 14), (⟨"CutTreeKeeperModel", "pairs", "()I"⟩, 14), (⟨"CutTreeKeeperModel", "isCut", "(I)Z"⟩, 14), (⟨"CutTreeKeeperModel", "full", "()I"⟩, 14), (⟨"CutTreeKeeperModel", "weigh", "(I)I"⟩, 14), (⟨"CutTreeKeeperModel", "freshen", "()V"⟩, 14), (⟨"CutTreeKeeperModel", "isNew", "()Z"⟩, 14), (⟨"CutTreeKeeperModel", "makeTree", "()V"⟩, 14), (⟨"CutTreeKeeperModel", "layWeights", "()V"⟩, 14), (⟨"CutTreeKeeperModel", "joinNode", "(I)V"⟩, 14), (⟨"CutTreeKeeperModel", "findNear", "(II)V"⟩, 14), (⟨"CutTreeKeeperModel", "nodeBarred", "(I)I"⟩, 14), (⟨"CutTreeKeeperModel", "sideOf", "(I)I"⟩, 14)]
theorem lw_r2 : ∀ q ∈ lw_privs_2, lw_okq q := List.forall_mem_cons.mpr ⟨lw_p16, List.forall_mem_cons.mpr ⟨lw_p17, List.forall_mem_cons.mpr ⟨lw_p18, List.forall_mem_cons.mpr ⟨lw_p19, List.forall_mem_cons.mpr ⟨lw_p20, List.forall_mem_cons.mpr ⟨lw_p21, List.forall_mem_cons.mpr ⟨lw_p22, List.forall_mem_cons.mpr ⟨lw_p23, List.forall_mem_cons.mpr ⟨lw_p24, List.forall_mem_cons.mpr ⟨lw_p25, List.forall_mem_cons.mpr ⟨lw_p26, List.forall_mem_cons.mpr ⟨lw_p27, List.forall_mem_cons.mpr ⟨lw_p28, List.forall_mem_cons.mpr ⟨lw_p29, List.forall_mem_cons.mpr ⟨lw_p30, List.forall_mem_cons.mpr ⟨lw_p31, fun _ h => absurd h List.not_mem_nil⟩⟩⟩⟩⟩⟩⟩⟩⟩⟩⟩⟩⟩⟩⟩⟩
theorem lw_p32 : lw_okq (⟨"CutTreeKeeperModel", "lossOf", "()I"⟩, 14) := ⟨⟨by decide +kernel, by decide +kernel⟩, List.mem_of_getElem? (i := 421) (by decide +kernel), List.mem_of_getElem? (i := 588) (by decide +kernel), List.mem_of_getElem? (i := 589) (by decide +kernel)⟩
theorem lw_p33 : lw_okq (⟨"CutTreeKeeperModel", "pathBarred", "(II)I"⟩, 14) := ⟨⟨by decide +kernel, by decide +kernel⟩, List.mem_of_getElem? (i := 421) (by decide +kernel), List.mem_of_getElem? (i := 596) (by decide +kernel), List.mem_of_getElem? (i := 597) (by decide +kernel)⟩
theorem lw_p34 : lw_okq (⟨"CutTreeKeeperModel", "lowerOf", "(II)I"⟩, 14) := ⟨⟨by decide +kernel, by decide +kernel⟩, List.mem_of_getElem? (i := 421) (by decide +kernel), List.mem_of_getElem? (i := 600) (by decide +kernel), List.mem_of_getElem? (i := 601) (by decide +kernel)⟩
theorem lw_p35 : lw_okq (⟨"CutTreeKeeperModel", "leastOn", "(IIZ)I"⟩, 14) := ⟨⟨by decide +kernel, by decide +kernel⟩, List.mem_of_getElem? (i := 421) (by decide +kernel), List.mem_of_getElem? (i := 604) (by decide +kernel), List.mem_of_getElem? (i := 605) (by decide +kernel)⟩
theorem lw_p36 : lw_okq (⟨"CutTreeKeeperModel", "isOnPath", "(III)Z"⟩, 14) := ⟨⟨by decide +kernel, by decide +kernel⟩, List.mem_of_getElem? (i := 421) (by decide +kernel), List.mem_of_getElem? (i := 608) (by decide +kernel), List.mem_of_getElem? (i := 609) (by decide +kernel)⟩
theorem lw_p37 : lw_okq (⟨"CutTreeKeeperModel", "decide", "(II)V"⟩, 14) := ⟨⟨by decide +kernel, by decide +kernel⟩, List.mem_of_getElem? (i := 421) (by decide +kernel), List.mem_of_getElem? (i := 620) (by decide +kernel), List.mem_of_getElem? (i := 621) (by decide +kernel)⟩
theorem lw_p38 : lw_okq (⟨"CutTreeKeeperModel", "classBy", "(II)I"⟩, 14) := ⟨⟨by decide +kernel, by decide +kernel⟩, List.mem_of_getElem? (i := 421) (by decide +kernel), List.mem_of_getElem? (i := 643) (by decide +kernel), List.mem_of_getElem? (i := 644) (by decide +kernel)⟩
def lw_privs_3 : List (MethodName × Nat) := [(⟨"CutTreeKeeperModel", "lossOf", "()I"⟩, 14), (⟨"CutTreeKeeperModel", "pathBarred", "(II)I"⟩, 14), (⟨"CutTreeKeeperModel", "lowerOf", "(II)I"⟩, 14), (⟨"CutTreeKeeperModel", "leastOn", "(IIZ)I"⟩, 14), (⟨"CutTreeKeeperModel", "isOnPath", "(III)Z"⟩, 14), (⟨"CutTreeKeeperModel", "decide", "(II)V"⟩, 14), (⟨"CutTreeKeeperModel", "classBy", "(II)I"⟩, 14)]
theorem lw_r3 : ∀ q ∈ lw_privs_3, lw_okq q := List.forall_mem_cons.mpr ⟨lw_p32, List.forall_mem_cons.mpr ⟨lw_p33, List.forall_mem_cons.mpr ⟨lw_p34, List.forall_mem_cons.mpr ⟨lw_p35, List.forall_mem_cons.mpr ⟨lw_p36, List.forall_mem_cons.mpr ⟨lw_p37, List.forall_mem_cons.mpr ⟨lw_p38, fun _ h => absurd h List.not_mem_nil⟩⟩⟩⟩⟩⟩⟩
def lw_privs : List (MethodName × Nat) := lw_privs_1 ++ (lw_privs_2 ++ (lw_privs_3))
def lw_tbl : List Cond := k2_sels lw_privs ++ tables_1
theorem lw_privs_ok : ∀ q ∈ lw_privs, lw_okq q := by
  show ∀ q ∈ lw_privs_1 ++ (lw_privs_2 ++ (lw_privs_3)), lw_okq q
  exact List.forall_mem_append.mpr ⟨lw_r1, List.forall_mem_append.mpr ⟨lw_r2, lw_r3⟩⟩

def RX0 : String := "CutTreeKeeper$ChangeList"
def TX0 : u_T := fun k => match k with
  | 0 => ("CutTreeKeeper$ChangeList", "firsts", "[I", true)
  | 1 => ("CutTreeKeeper$ChangeList", "seconds", "[I", true)
  | 2 => ("CutTreeKeeper$ChangeList", "befores", "[I", true)
  | 3 => ("CutTreeKeeper$ChangeList", "next", "I", false)
  | _ => ("CutTreeKeeper$ChangeList", "size", "I", false)
def tyX0 : Nat → FieldType := fun k => match k with
  | 0 => .array .int
  | 1 => .array .int
  | 2 => .array .int
  | 3 => .int
  | _ => .int
abbrev wsX00 : List Cond := u_ws RX0 TX0 5
theorem nmX0 : ∀ a, a < 5 → ∀ b, b < 5 → a ≠ b → (TX0 a).2.1 ≠ (TX0 b).2.1 := by decide +kernel
theorem tyX0_ok : ∀ k, k < 5 → parseFieldDescriptor (TX0 k).2.2.1 = some (tyX0 k) := by decide +kernel
abbrev cX0_init : ByteArray := prog_2_method_1_code
def yX0_init : MethodName := ⟨RX0, "<init>", "()V"⟩
abbrev cX0_forgetAll : ByteArray := prog_2_method_2_code
def yX0_forgetAll : MethodName := ⟨RX0, "forgetAll", "()V"⟩
abbrev cX0_remember : ByteArray := prog_2_method_3_code
def yX0_remember : MethodName := ⟨RX0, "remember", "(III)V"⟩
abbrev cX0_takeBackLatest : ByteArray := prog_2_method_4_code
def yX0_takeBackLatest : MethodName := ⟨RX0, "takeBackLatest", "(LCutTreeKeeper$Graph;)V"⟩
def RX1 : String := "CutTreeKeeper$CutTree"
def TX1 : u_T := fun k => match k with
  | 0 => ("CutTreeKeeper$CutTree", "graph", "LCutTreeKeeper$Graph;", true)
  | 1 => ("CutTreeKeeper$CutTree", "finder", "LCutTreeKeeper$NearCutFinder;", true)
  | 2 => ("CutTreeKeeper$CutTree", "capacitiesThen", "[[I", true)
  | 3 => ("CutTreeKeeper$CutTree", "parents", "[I", true)
  | 4 => ("CutTreeKeeper$CutTree", "labels", "[I", true)
  | 5 => ("CutTreeKeeper$CutTree", "sides", "[I", true)
  | _ => ("CutTreeKeeper$CutTree", "stored", "Z", false)
def tyX1 : Nat → FieldType := fun k => match k with
  | 0 => .object "CutTreeKeeper$Graph"
  | 1 => .object "CutTreeKeeper$NearCutFinder"
  | 2 => .array (.array .int)
  | 3 => .array .int
  | 4 => .array .int
  | 5 => .array .int
  | _ => .boolean
abbrev wsX10 : List Cond := u_ws RX1 TX1 7
theorem nmX1 : ∀ a, a < 7 → ∀ b, b < 7 → a ≠ b → (TX1 a).2.1 ≠ (TX1 b).2.1 := by decide +kernel
theorem tyX1_ok : ∀ k, k < 7 → parseFieldDescriptor (TX1 k).2.2.1 = some (tyX1 k) := by decide +kernel
abbrev cX1_init : ByteArray := prog_3_method_1_code
def yX1_init : MethodName := ⟨RX1, "<init>", "(LCutTreeKeeper$Graph;)V"⟩
abbrev cX1_growAnew : ByteArray := prog_3_method_2_code
def yX1_growAnew : MethodName := ⟨RX1, "growAnew", "()V"⟩
abbrev cX1_splitOff : ByteArray := prog_3_method_3_code
def yX1_splitOff : MethodName := ⟨RX1, "splitOff", "(III)V"⟩
abbrev cX1_hasParent : ByteArray := prog_3_method_4_code
def yX1_hasParent : MethodName := ⟨RX1, "hasParent", "(I)Z"⟩
abbrev cX1_collectSides : ByteArray := prog_3_method_5_code
def yX1_collectSides : MethodName := ⟨RX1, "collectSides", "()V"⟩
abbrev cX1_fitsGraph : ByteArray := prog_3_method_6_code
def yX1_fitsGraph : MethodName := ⟨RX1, "fitsGraph", "()Z"⟩
abbrev cX1_lostCapacity : ByteArray := prog_3_method_7_code
def yX1_lostCapacity : MethodName := ⟨RX1, "lostCapacity", "()I"⟩
abbrev cX1_atLeast : ByteArray := prog_3_method_8_code
def yX1_atLeast : MethodName := ⟨RX1, "atLeast", "(II)I"⟩
abbrev cX1_atMost : ByteArray := prog_3_method_9_code
def yX1_atMost : MethodName := ⟨RX1, "atMost", "(II)I"⟩
abbrev cX1_leastLabel : ByteArray := prog_3_method_10_code
def yX1_leastLabel : MethodName := ⟨RX1, "leastLabel", "(II)I"⟩
abbrev cX1_lightestCutOnWay : ByteArray := prog_3_method_11_code
def yX1_lightestCutOnWay : MethodName := ⟨RX1, "lightestCutOnWay", "(II)I"⟩
abbrev cX1_lightestOnWay : ByteArray := prog_3_method_12_code
def yX1_lightestOnWay : MethodName := ⟨RX1, "lightestOnWay", "(II)I"⟩
abbrev cX1_placeOnWay : ByteArray := prog_3_method_13_code
def yX1_placeOnWay : MethodName := ⟨RX1, "placeOnWay", "(II)I"⟩
abbrev cX1_nodeAtPlace : ByteArray := prog_3_method_14_code
def yX1_nodeAtPlace : MethodName := ⟨RX1, "nodeAtPlace", "(I)I"⟩
abbrev cX1_lighterThan : ByteArray := prog_3_method_15_code
def yX1_lighterThan : MethodName := ⟨RX1, "lighterThan", "(I)I"⟩
abbrev cX1_labelsBelow : ByteArray := prog_3_method_16_code
def yX1_labelsBelow : MethodName := ⟨RX1, "labelsBelow", "(I)I"⟩
abbrev cX1_nodesTiedTo : ByteArray := prog_3_method_17_code
def yX1_nodesTiedTo : MethodName := ⟨RX1, "nodesTiedTo", "(II)I"⟩
abbrev cX1_nodeTiedMostTo : ByteArray := prog_3_method_18_code
def yX1_nodeTiedMostTo : MethodName := ⟨RX1, "nodeTiedMostTo", "(I)I"⟩
abbrev cX1_leastLabelAcross : ByteArray := prog_3_method_19_code
def yX1_leastLabelAcross : MethodName := ⟨RX1, "leastLabelAcross", "(I)I"⟩
def RX2 : String := "CutTreeKeeper$Graph"
def TX2 : u_T := fun k => match k with
  | 0 => ("CutTreeKeeper$Graph", "capacities", "[[I", true)
  | _ => ("CutTreeKeeper$Graph", "nodes", "I", false)
def tyX2 : Nat → FieldType := fun k => match k with
  | 0 => .array (.array .int)
  | _ => .int
abbrev wsX20 : List Cond := u_ws RX2 TX2 2
theorem nmX2 : ∀ a, a < 2 → ∀ b, b < 2 → a ≠ b → (TX2 a).2.1 ≠ (TX2 b).2.1 := by decide +kernel
theorem tyX2_ok : ∀ k, k < 2 → parseFieldDescriptor (TX2 k).2.2.1 = some (tyX2 k) := by decide +kernel
abbrev cX2_init : ByteArray := prog_4_method_1_code
def yX2_init : MethodName := ⟨RX2, "<init>", "(I)V"⟩
abbrev cX2_startWith : ByteArray := prog_4_method_2_code
def yX2_startWith : MethodName := ⟨RX2, "startWith", "(I)V"⟩
abbrev cX2_hasNode : ByteArray := prog_4_method_3_code
def yX2_hasNode : MethodName := ⟨RX2, "hasNode", "(I)Z"⟩
abbrev cX2_between : ByteArray := prog_4_method_4_code
def yX2_between : MethodName := ⟨RX2, "between", "(II)I"⟩
abbrev cX2_put : ByteArray := prog_4_method_5_code
def yX2_put : MethodName := ⟨RX2, "put", "(III)V"⟩
abbrev cX2_edges : ByteArray := prog_4_method_6_code
def yX2_edges : MethodName := ⟨RX2, "edges", "()I"⟩
abbrev cX2_allNodes : ByteArray := prog_4_method_7_code
def yX2_allNodes : MethodName := ⟨RX2, "allNodes", "()I"⟩
abbrev cX2_isCut : ByteArray := prog_4_method_8_code
def yX2_isCut : MethodName := ⟨RX2, "isCut", "(I)Z"⟩
abbrev cX2_weightOf : ByteArray := prog_4_method_9_code
def yX2_weightOf : MethodName := ⟨RX2, "weightOf", "(I)I"⟩
def RX3 : String := "CutTreeKeeper$NearCutFinder"
def TX3 : u_T := fun k => match k with
  | 0 => ("CutTreeKeeper$NearCutFinder", "rest", "[[I", true)
  | 1 => ("CutTreeKeeper$NearCutFinder", "queue", "[I", true)
  | 2 => ("CutTreeKeeper$NearCutFinder", "cameFrom", "[I", true)
  | 3 => ("CutTreeKeeper$NearCutFinder", "nodes", "I", false)
  | _ => ("CutTreeKeeper$NearCutFinder", "reached", "I", false)
def tyX3 : Nat → FieldType := fun k => match k with
  | 0 => .array (.array .int)
  | 1 => .array .int
  | 2 => .array .int
  | 3 => .int
  | _ => .int
abbrev wsX30 : List Cond := u_ws RX3 TX3 5
theorem nmX3 : ∀ a, a < 5 → ∀ b, b < 5 → a ≠ b → (TX3 a).2.1 ≠ (TX3 b).2.1 := by decide +kernel
theorem tyX3_ok : ∀ k, k < 5 → parseFieldDescriptor (TX3 k).2.2.1 = some (tyX3 k) := by decide +kernel
abbrev cX3_init : ByteArray := prog_5_method_1_code
def yX3_init : MethodName := ⟨RX3, "<init>", "()V"⟩
abbrev cX3_nearCut : ByteArray := prog_5_method_2_code
def yX3_nearCut : MethodName := ⟨RX3, "nearCut", "(LCutTreeKeeper$Graph;II)I"⟩
abbrev cX3_findPath : ByteArray := prog_5_method_3_code
def yX3_findPath : MethodName := ⟨RX3, "findPath", "(II)Z"⟩
abbrev cX3_narrowest : ByteArray := prog_5_method_4_code
def yX3_narrowest : MethodName := ⟨RX3, "narrowest", "(II)I"⟩
abbrev cX3_sendAlong : ByteArray := prog_5_method_5_code
def yX3_sendAlong : MethodName := ⟨RX3, "sendAlong", "(III)V"⟩
def RX4 : String := "CutTreeKeeper"
def TX4 : u_T := fun k => match k with
  | 0 => ("CutTreeKeeper", "graph", "LCutTreeKeeper$Graph;", true)
  | 1 => ("CutTreeKeeper", "changes", "LCutTreeKeeper$ChangeList;", true)
  | 2 => ("CutTreeKeeper", "tree", "LCutTreeKeeper$CutTree;", true)
  | _ => ("CutTreeKeeper", "flows", "I", false)
def tyX4 : Nat → FieldType := fun k => match k with
  | 0 => .object "CutTreeKeeper$Graph"
  | 1 => .object "CutTreeKeeper$ChangeList"
  | 2 => .object "CutTreeKeeper$CutTree"
  | _ => .int
abbrev wsX40 : List Cond := u_ws RX4 TX4 4
theorem nmX4 : ∀ a, a < 4 → ∀ b, b < 4 → a ≠ b → (TX4 a).2.1 ≠ (TX4 b).2.1 := by decide +kernel
theorem tyX4_ok : ∀ k, k < 4 → parseFieldDescriptor (TX4 k).2.2.1 = some (tyX4 k) := by decide +kernel
abbrev cX4_init : ByteArray := prog_1_method_1_code
def yX4_init : MethodName := ⟨RX4, "<init>", "()V"⟩
abbrev cX4_reset : ByteArray := prog_1_method_2_code
def yX4_reset : MethodName := ⟨RX4, "reset", "(I)I"⟩
abbrev cX4_setCapacity : ByteArray := prog_1_method_3_code
def yX4_setCapacity : MethodName := ⟨RX4, "setCapacity", "(III)I"⟩
abbrev cX4_undo : ByteArray := prog_1_method_4_code
def yX4_undo : MethodName := ⟨RX4, "undo", "()I"⟩
abbrev cX4_capacity : ByteArray := prog_1_method_5_code
def yX4_capacity : MethodName := ⟨RX4, "capacity", "(II)I"⟩
abbrev cX4_count : ByteArray := prog_1_method_6_code
def yX4_count : MethodName := ⟨RX4, "count", "(I)I"⟩
abbrev cX4_cutWeight : ByteArray := prog_1_method_7_code
def yX4_cutWeight : MethodName := ⟨RX4, "cutWeight", "(I)I"⟩
abbrev cX4_build : ByteArray := prog_1_method_8_code
def yX4_build : MethodName := ⟨RX4, "build", "()I"⟩
abbrev cX4_isFresh : ByteArray := prog_1_method_9_code
def yX4_isFresh : MethodName := ⟨RX4, "isFresh", "()I"⟩
abbrev cX4_parent : ByteArray := prog_1_method_10_code
def yX4_parent : MethodName := ⟨RX4, "parent", "(I)I"⟩
abbrev cX4_label : ByteArray := prog_1_method_11_code
def yX4_label : MethodName := ⟨RX4, "label", "(I)I"⟩
abbrev cX4_side : ByteArray := prog_1_method_12_code
def yX4_side : MethodName := ⟨RX4, "side", "(I)I"⟩
abbrev cX4_loss : ByteArray := prog_1_method_13_code
def yX4_loss : MethodName := ⟨RX4, "loss", "()I"⟩
abbrev cX4_lowerBound : ByteArray := prog_1_method_14_code
def yX4_lowerBound : MethodName := ⟨RX4, "lowerBound", "(II)I"⟩
abbrev cX4_upperBound : ByteArray := prog_1_method_15_code
def yX4_upperBound : MethodName := ⟨RX4, "upperBound", "(II)I"⟩
abbrev cX4_minimumCut : ByteArray := prog_1_method_16_code
def yX4_minimumCut : MethodName := ⟨RX4, "minimumCut", "(II)I"⟩
abbrev cX4_witness : ByteArray := prog_1_method_17_code
def yX4_witness : MethodName := ⟨RX4, "witness", "(II)I"⟩
abbrev cX4_isAtLeast : ByteArray := prog_1_method_18_code
def yX4_isAtLeast : MethodName := ⟨RX4, "isAtLeast", "(III)I"⟩
abbrev cX4_lightCut : ByteArray := prog_1_method_19_code
def yX4_lightCut : MethodName := ⟨RX4, "lightCut", "(I)I"⟩
abbrev cX4_classCount : ByteArray := prog_1_method_20_code
def yX4_classCount : MethodName := ⟨RX4, "classCount", "(I)I"⟩
abbrev cX4_classOf : ByteArray := prog_1_method_21_code
def yX4_classOf : MethodName := ⟨RX4, "classOf", "(II)I"⟩
abbrev cX4_partner : ByteArray := prog_1_method_22_code
def yX4_partner : MethodName := ⟨RX4, "partner", "(I)I"⟩
abbrev cX4_leastAcross : ByteArray := prog_1_method_23_code
def yX4_leastAcross : MethodName := ⟨RX4, "leastAcross", "(I)I"⟩
abbrev cX4_pairError : ByteArray := prog_1_method_24_code
def yX4_pairError : MethodName := ⟨RX4, "pairError", "(II)I"⟩
abbrev cX4_storedPairError : ByteArray := prog_1_method_25_code
def yX4_storedPairError : MethodName := ⟨RX4, "storedPairError", "(II)I"⟩
abbrev cX4_storedNodeError : ByteArray := prog_1_method_26_code
def yX4_storedNodeError : MethodName := ⟨RX4, "storedNodeError", "(I)I"⟩
abbrev cX4_isLimit : ByteArray := prog_1_method_27_code
def yX4_isLimit : MethodName := ⟨RX4, "isLimit", "(I)Z"⟩
abbrev cX4_freshen : ByteArray := prog_1_method_28_code
def yX4_freshen : MethodName := ⟨RX4, "freshen", "()V"⟩
abbrev cX4_makeBoundsMeet : ByteArray := prog_1_method_29_code
def yX4_makeBoundsMeet : MethodName := ⟨RX4, "makeBoundsMeet", "(II)V"⟩
abbrev cX4_buildAnew : ByteArray := prog_1_method_30_code
def yX4_buildAnew : MethodName := ⟨RX4, "buildAnew", "()V"⟩
abbrev cX4_only : ByteArray := prog_1_method_31_code
def yX4_only : MethodName := ⟨RX4, "only", "(I)I"⟩
abbrev cX4_holds : ByteArray := prog_1_method_32_code
def yX4_holds : MethodName := ⟨RX4, "holds", "(II)Z"⟩
abbrev cX4_separates : ByteArray := prog_1_method_33_code
def yX4_separates : MethodName := ⟨RX4, "separates", "(III)Z"⟩
def RX5 : String := "CutTreeKeeperModel"
def TX5 : u_T := fun k => match k with
  | 0 => ("CutTreeKeeperModel", "nodes", "I", false)
  | 1 => ("CutTreeKeeperModel", "capacityOf", "[I", true)
  | 2 => ("CutTreeKeeperModel", "changes", "I", false)
  | 3 => ("CutTreeKeeperModel", "changeFrom", "[I", true)
  | 4 => ("CutTreeKeeperModel", "changeTo", "[I", true)
  | 5 => ("CutTreeKeeperModel", "changeWas", "[I", true)
  | 6 => ("CutTreeKeeperModel", "flows", "I", false)
  | 7 => ("CutTreeKeeperModel", "isStored", "Z", false)
  | 8 => ("CutTreeKeeperModel", "parentOf", "[I", true)
  | 9 => ("CutTreeKeeperModel", "labelOf", "[I", true)
  | 10 => ("CutTreeKeeperModel", "builtWith", "[I", true)
  | 11 => ("CutTreeKeeperModel", "weightOf", "[I", true)
  | 12 => ("CutTreeKeeperModel", "nearSet", "I", false)
  | _ => ("CutTreeKeeperModel", "nearWeight", "I", false)
def tyX5 : Nat → FieldType := fun k => match k with
  | 0 => .int
  | 1 => .array .int
  | 2 => .int
  | 3 => .array .int
  | 4 => .array .int
  | 5 => .array .int
  | 6 => .int
  | 7 => .boolean
  | 8 => .array .int
  | 9 => .array .int
  | 10 => .array .int
  | 11 => .array .int
  | 12 => .int
  | _ => .int
abbrev wsX50 : List Cond := u_ws RX5 TX5 14
theorem nmX5 : ∀ a, a < 14 → ∀ b, b < 14 → a ≠ b → (TX5 a).2.1 ≠ (TX5 b).2.1 := by decide +kernel
theorem tyX5_ok : ∀ k, k < 14 → parseFieldDescriptor (TX5 k).2.2.1 = some (tyX5 k) := by decide +kernel
abbrev cX5_init : ByteArray := prog_7_method_1_code
def yX5_init : MethodName := ⟨RX5, "<init>", "()V"⟩
abbrev cX5_within : ByteArray := prog_7_method_2_code
def yX5_within : MethodName := ⟨RX5, "within", "(III)Z"⟩
abbrev cX5_isIn : ByteArray := prog_7_method_3_code
def yX5_isIn : MethodName := ⟨RX5, "isIn", "(II)Z"⟩
abbrev cX5_noNode : ByteArray := prog_7_method_4_code
def yX5_noNode : MethodName := ⟨RX5, "noNode", "(I)Z"⟩
abbrev cX5_twoBarred : ByteArray := prog_7_method_5_code
def yX5_twoBarred : MethodName := ⟨RX5, "twoBarred", "(II)I"⟩
abbrev cX5_putCapacity : ByteArray := prog_7_method_6_code
def yX5_putCapacity : MethodName := ⟨RX5, "putCapacity", "(III)V"⟩
abbrev cX5_reset : ByteArray := prog_7_method_7_code
def yX5_reset : MethodName := ⟨RX5, "reset", "(I)I"⟩
abbrev cX5_keepChange : ByteArray := prog_7_method_8_code
def yX5_keepChange : MethodName := ⟨RX5, "keepChange", "(III)V"⟩
abbrev cX5_setCapacity : ByteArray := prog_7_method_9_code
def yX5_setCapacity : MethodName := ⟨RX5, "setCapacity", "(III)I"⟩
abbrev cX5_undo : ByteArray := prog_7_method_10_code
def yX5_undo : MethodName := ⟨RX5, "undo", "()I"⟩
abbrev cX5_capacity : ByteArray := prog_7_method_11_code
def yX5_capacity : MethodName := ⟨RX5, "capacity", "(II)I"⟩
abbrev cX5_pairs : ByteArray := prog_7_method_12_code
def yX5_pairs : MethodName := ⟨RX5, "pairs", "()I"⟩
abbrev cX5_count : ByteArray := prog_7_method_13_code
def yX5_count : MethodName := ⟨RX5, "count", "(I)I"⟩
abbrev cX5_full : ByteArray := prog_7_method_14_code
def yX5_full : MethodName := ⟨RX5, "full", "()I"⟩
abbrev cX5_weigh : ByteArray := prog_7_method_15_code
def yX5_weigh : MethodName := ⟨RX5, "weigh", "(I)I"⟩
abbrev cX5_isCut : ByteArray := prog_7_method_16_code
def yX5_isCut : MethodName := ⟨RX5, "isCut", "(I)Z"⟩
abbrev cX5_cutWeight : ByteArray := prog_7_method_17_code
def yX5_cutWeight : MethodName := ⟨RX5, "cutWeight", "(I)I"⟩
abbrev cX5_layWeights : ByteArray := prog_7_method_18_code
def yX5_layWeights : MethodName := ⟨RX5, "layWeights", "()V"⟩
abbrev cX5_findNear : ByteArray := prog_7_method_19_code
def yX5_findNear : MethodName := ⟨RX5, "findNear", "(II)V"⟩
abbrev cX5_joinNode : ByteArray := prog_7_method_20_code
def yX5_joinNode : MethodName := ⟨RX5, "joinNode", "(I)V"⟩
abbrev cX5_makeTree : ByteArray := prog_7_method_21_code
def yX5_makeTree : MethodName := ⟨RX5, "makeTree", "()V"⟩
abbrev cX5_isNew : ByteArray := prog_7_method_22_code
def yX5_isNew : MethodName := ⟨RX5, "isNew", "()Z"⟩
abbrev cX5_freshen : ByteArray := prog_7_method_23_code
def yX5_freshen : MethodName := ⟨RX5, "freshen", "()V"⟩
abbrev cX5_build : ByteArray := prog_7_method_24_code
def yX5_build : MethodName := ⟨RX5, "build", "()I"⟩
abbrev cX5_isFresh : ByteArray := prog_7_method_25_code
def yX5_isFresh : MethodName := ⟨RX5, "isFresh", "()I"⟩
abbrev cX5_nodeBarred : ByteArray := prog_7_method_26_code
def yX5_nodeBarred : MethodName := ⟨RX5, "nodeBarred", "(I)I"⟩
abbrev cX5_parent : ByteArray := prog_7_method_27_code
def yX5_parent : MethodName := ⟨RX5, "parent", "(I)I"⟩
abbrev cX5_label : ByteArray := prog_7_method_28_code
def yX5_label : MethodName := ⟨RX5, "label", "(I)I"⟩
abbrev cX5_sideOf : ByteArray := prog_7_method_29_code
def yX5_sideOf : MethodName := ⟨RX5, "sideOf", "(I)I"⟩
abbrev cX5_side : ByteArray := prog_7_method_30_code
def yX5_side : MethodName := ⟨RX5, "side", "(I)I"⟩
abbrev cX5_lossOf : ByteArray := prog_7_method_31_code
def yX5_lossOf : MethodName := ⟨RX5, "lossOf", "()I"⟩
abbrev cX5_loss : ByteArray := prog_7_method_32_code
def yX5_loss : MethodName := ⟨RX5, "loss", "()I"⟩
abbrev cX5_isOnPath : ByteArray := prog_7_method_33_code
def yX5_isOnPath : MethodName := ⟨RX5, "isOnPath", "(III)Z"⟩
abbrev cX5_leastOn : ByteArray := prog_7_method_34_code
def yX5_leastOn : MethodName := ⟨RX5, "leastOn", "(IIZ)I"⟩
abbrev cX5_lowerOf : ByteArray := prog_7_method_35_code
def yX5_lowerOf : MethodName := ⟨RX5, "lowerOf", "(II)I"⟩
abbrev cX5_pathBarred : ByteArray := prog_7_method_36_code
def yX5_pathBarred : MethodName := ⟨RX5, "pathBarred", "(II)I"⟩
abbrev cX5_lowerBound : ByteArray := prog_7_method_37_code
def yX5_lowerBound : MethodName := ⟨RX5, "lowerBound", "(II)I"⟩
abbrev cX5_upperBound : ByteArray := prog_7_method_38_code
def yX5_upperBound : MethodName := ⟨RX5, "upperBound", "(II)I"⟩
abbrev cX5_decide : ByteArray := prog_7_method_39_code
def yX5_decide : MethodName := ⟨RX5, "decide", "(II)V"⟩
abbrev cX5_minimumCut : ByteArray := prog_7_method_40_code
def yX5_minimumCut : MethodName := ⟨RX5, "minimumCut", "(II)I"⟩
abbrev cX5_witness : ByteArray := prog_7_method_41_code
def yX5_witness : MethodName := ⟨RX5, "witness", "(II)I"⟩
abbrev cX5_isLimit : ByteArray := prog_7_method_42_code
def yX5_isLimit : MethodName := ⟨RX5, "isLimit", "(I)Z"⟩
abbrev cX5_isAtLeast : ByteArray := prog_7_method_43_code
def yX5_isAtLeast : MethodName := ⟨RX5, "isAtLeast", "(III)I"⟩
abbrev cX5_lightCut : ByteArray := prog_7_method_44_code
def yX5_lightCut : MethodName := ⟨RX5, "lightCut", "(I)I"⟩
abbrev cX5_classBy : ByteArray := prog_7_method_45_code
def yX5_classBy : MethodName := ⟨RX5, "classBy", "(II)I"⟩
abbrev cX5_classCount : ByteArray := prog_7_method_46_code
def yX5_classCount : MethodName := ⟨RX5, "classCount", "(I)I"⟩
abbrev cX5_classOf : ByteArray := prog_7_method_47_code
def yX5_classOf : MethodName := ⟨RX5, "classOf", "(II)I"⟩
abbrev cX5_partner : ByteArray := prog_7_method_48_code
def yX5_partner : MethodName := ⟨RX5, "partner", "(I)I"⟩
abbrev cX5_leastAcross : ByteArray := prog_7_method_49_code
def yX5_leastAcross : MethodName := ⟨RX5, "leastAcross", "(I)I"⟩
def RJ6 : String := "java/lang/Integer"
def TJ6 : u_T := fun k => match k with
  | _ => ("", "", "", false)
def tyJ6 : Nat → FieldType := fun k => match k with
  | _ => .int
abbrev wsJ60 : List Cond := u_ws RJ6 TJ6 0
theorem nmJ6 : ∀ a, a < 0 → ∀ b, b < 0 → a ≠ b → (TJ6 a).2.1 ≠ (TJ6 b).2.1 := by decide +kernel
theorem tyJ6_ok : ∀ k, k < 0 → parseFieldDescriptor (TJ6 k).2.2.1 = some (tyJ6 k) := by decide +kernel
abbrev cJ6_bitCount_0f7a4 : ByteArray := prog_8_method_49_code
def yJ6_bitCount_0f7a4 : MethodName := ⟨RJ6, "bitCount", "(I)I"⟩
def RJ9 : String := "java/lang/Math"
def TJ9 : u_T := fun k => match k with
  | _ => ("", "", "", false)
def tyJ9 : Nat → FieldType := fun k => match k with
  | _ => .int
abbrev wsJ90 : List Cond := u_ws RJ9 TJ9 0
theorem nmJ9 : ∀ a, a < 0 → ∀ b, b < 0 → a ≠ b → (TJ9 a).2.1 ≠ (TJ9 b).2.1 := by decide +kernel
theorem tyJ9_ok : ∀ k, k < 0 → parseFieldDescriptor (TJ9 k).2.2.1 = some (tyJ9 k) := by decide +kernel
abbrev cJ9_max_7cf53 : ByteArray := prog_9_method_65_code
def yJ9_max_7cf53 : MethodName := ⟨RJ9, "max", "(II)I"⟩
abbrev cJ9_min_7cf53 : ByteArray := prog_9_method_69_code
def yJ9_min_7cf53 : MethodName := ⟨RJ9, "min", "(II)I"⟩
def RJ10 : String := "java/lang/System"
def TJ10 : u_T := fun k => match k with
  | _ => ("", "", "", false)
def tyJ10 : Nat → FieldType := fun k => match k with
  | _ => .int
abbrev wsJ100 : List Cond := u_ws RJ10 TJ10 0
theorem nmJ10 : ∀ a, a < 0 → ∀ b, b < 0 → a ≠ b → (TJ10 a).2.1 ≠ (TJ10 b).2.1 := by decide +kernel
theorem tyJ10_ok : ∀ k, k < 0 → parseFieldDescriptor (TJ10 k).2.2.1 = some (tyJ10 k) := by decide +kernel
def RJ7 : String := "java/util/Arrays"
def TJ7 : u_T := fun k => match k with
  | _ => ("", "", "", false)
def tyJ7 : Nat → FieldType := fun k => match k with
  | _ => .int
abbrev wsJ70 : List Cond := u_ws RJ7 TJ7 0
theorem nmJ7 : ∀ a, a < 0 → ∀ b, b < 0 → a ≠ b → (TJ7 a).2.1 ≠ (TJ7 b).2.1 := by decide +kernel
theorem tyJ7_ok : ∀ k, k < 0 → parseFieldDescriptor (TJ7 k).2.2.1 = some (tyJ7 k) := by decide +kernel
abbrev cJ7_fill_53178 : ByteArray := prog_11_method_103_code
def yJ7_fill_53178 : MethodName := ⟨RJ7, "fill", "([II)V"⟩
def RL : String := "CutTreeKeeperLaw"
abbrev cL_law : ByteArray := code
def yL_law : MethodName := ⟨RL, "law", "([I)Z"⟩
abbrev vwCl : List vw_C := [(RX0, TX0, 5), (RX1, TX1, 7), (RX2, TX2, 2), (RX3, TX3, 5), (RX4, TX4, 4), (RX5, TX5, 14)]
end
section
/-! A SMALL VERIFIED GENERATOR OF CONDITIONS: methods that make no cell, over a world of fixed cells.
A value is an int, a cell (by its place), or a row of a square of 12 by 12 (by the square's place and the row's number).
A cell is an object (its class in vwCl, its fields), an int array, or a square. -/
abbrev zV : Type := Int32 ⊕ (Nat ⊕ (Nat × Nat))
abbrev zC : Type := (Nat × List zV) ⊕ ((Nat × (Nat → Int32)) ⊕ (Nat → Nat → Int32))
abbrev zS : Type := List zC
abbrev zI : Type := Nat × Instr × Nat × Nat × Int32
abbrev zT : Type := zS × Nat × List (Option zV) × List zV
abbrev zP : Type := Option zV → zS → Prop
abbrev zK : Type := List zV → zS → zP → Prop
abbrev zA : Type := (Nat → Nat) × (Nat → Nat → Nat) × ClassId × ClassId
/-- a field: pool number, class, slot, kind (0: only read, 1: int, 2: boolean) -/
abbrev zF : Type := Nat × Nat × Nat × Nat
/-- a call: pool number, how many arguments, the receiver's class (100: static, 101: static of a nest mate), the callee's contract -/
abbrev zL : Type := Nat × Nat × Nat × zK
/-- a method: instructions, fields, constants, calls, the numbers of System.arraycopy, what it answers (0 nothing, 1 an int, 2 a boolean) -/
abbrev zM : Type := List zI × List zF × List (Nat × Int32) × List zL × List Nat × Nat
def zq_f {β : Type} (k : Nat) : List (Nat × β) → Option β
  | [] => none
  | q :: l => cond (Nat.beq k q.1) (some q.2) (zq_f k l)
def zq_in (k : Nat) : List Nat → Bool
  | [] => false
  | q :: l => cond (Nat.beq k q) true (zq_in k l)
def zup (f : Nat → Nat → Int32) (j : Nat) (g : Nat → Int32) : Nat → Nat → Int32 := fun q => if q = j then g else f q
def zcd (o : Jvm.ClassFile.Cond) (x y : Int32) (A B : Prop) : Prop :=
  match o with
  | .eq => (x = y → A) ∧ (¬ x = y → B)
  | .ne => (¬ x = y → A) ∧ (x = y → B)
  | .lt => (x < y → A) ∧ (¬ x < y → B)
  | .ge => (y ≤ x → A) ∧ (¬ y ≤ x → B)
  | .gt => (y < x → A) ∧ (¬ y < x → B)
  | .le => (x ≤ y → A) ∧ (¬ x ≤ y → B)
def zpt (kd : Nat) (x : Int32) (A : Prop) : Prop :=
  match kd with
  | 1 => A
  | 2 => (x = 0 ∨ x = 1) ∧ A
  | _ => False
/-- what must hold ahead of an instruction, so that K holds behind it (Q: behind the method) -/
def zex (M : zM) (Q : zP) (pc : Nat) (i : Instr) (nx tg : Nat) (iv : Int32) (σ : zS) (lv : List (Option zV)) (st : List zV) (K : zT → Prop) : Prop :=
  match i with
  | .iload_n k => match lv[k.val]? with
    | some (some (.inl x)) => K (σ, nx, lv, .inl x :: st)
    | _ => False
  | .iload k => match lv[k]? with
    | some (some (.inl x)) => K (σ, nx, lv, .inl x :: st)
    | _ => False
  | .aload_n k => match lv[k.val]? with
    | some (some (.inr x)) => K (σ, nx, lv, .inr x :: st)
    | _ => False
  | .iconst _ => K (σ, nx, lv, .inl iv :: st)
  | .bipush _ => K (σ, nx, lv, .inl iv :: st)
  | .sipush _ => K (σ, nx, lv, .inl iv :: st)
  | .ldc n => match zq_f n M.2.2.1 with
    | some v => K (σ, nx, lv, .inl v :: st)
    | none => False
  | .ldc_w n => match zq_f n M.2.2.1 with
    | some v => K (σ, nx, lv, .inl v :: st)
    | none => False
  | .istore_n k => match st, lv[k.val]? with
    | .inl x :: r, some _ => K (σ, nx, lv.set k.val (some (.inl x)), r)
    | _, _ => False
  | .istore k => match st, lv[k]? with
    | .inl x :: r, some _ => K (σ, nx, lv.set k (some (.inl x)), r)
    | _, _ => False
  | .iinc k _ => match lv[k]? with
    | some (some (.inl x)) => K (σ, nx, lv.set k (some (.inl (x + iv))), st)
    | _ => False
  | .iadd => match st with
    | .inl y :: .inl x :: r => K (σ, nx, lv, .inl (x + y) :: r)
    | _ => False
  | .isub => match st with
    | .inl y :: .inl x :: r => K (σ, nx, lv, .inl (x - y) :: r)
    | _ => False
  | .imul => match st with
    | .inl y :: .inl x :: r => K (σ, nx, lv, .inl (x * y) :: r)
    | _ => False
  | .iand => match st with
    | .inl y :: .inl x :: r => K (σ, nx, lv, .inl (x &&& y) :: r)
    | _ => False
  | .ior => match st with
    | .inl y :: .inl x :: r => K (σ, nx, lv, .inl (x ||| y) :: r)
    | _ => False
  | .ixor => match st with
    | .inl y :: .inl x :: r => K (σ, nx, lv, .inl (x ^^^ y) :: r)
    | _ => False
  | .ishl => match st with
    | .inl y :: .inl x :: r => K (σ, nx, lv, .inl (x <<< (y &&& 31)) :: r)
    | _ => False
  | .ishr => match st with
    | .inl y :: .inl x :: r => K (σ, nx, lv, .inl (x >>> (y &&& 31)) :: r)
    | _ => False
  | .iushr => match st with
    | .inl y :: .inl x :: r => K (σ, nx, lv, .inl (x.toUInt32 >>> (y.toUInt32 &&& Int32.toUInt32 31)).toInt32 :: r)
    | _ => False
  | .ineg => match st with
    | .inl x :: r => K (σ, nx, lv, .inl (-x) :: r)
    | _ => False
  | .dup => match st with
    | v :: r => K (σ, nx, lv, v :: v :: r)
    | _ => False
  | .dup2 => match st with
    | v :: w :: r => K (σ, nx, lv, v :: w :: v :: w :: r)
    | _ => False
  | .goto _ => K (σ, tg, lv, st)
  | .ifCond o _ => match st with
    | .inl x :: r => zcd o x 0 (K (σ, tg, lv, r)) (K (σ, nx, lv, r))
    | _ => False
  | .if_icmp o _ => match st with
    | .inl y :: .inl x :: r => zcd o x y (K (σ, tg, lv, r)) (K (σ, nx, lv, r))
    | _ => False
  | .getfield n => match st, zq_f n M.2.1 with
    | .inr (.inl k) :: r, some q => (match σ[k]? with
      | some (.inl o) => cond (Nat.beq o.1 q.1) (match o.2[q.2.1]? with
        | some v => K (σ, nx, lv, v :: r)
        | none => False) False
      | _ => False)
    | _, _ => False
  | .putfield n => match st, zq_f n M.2.1 with
    | .inl x :: .inr (.inl k) :: r, some q => (match σ[k]? with
      | some (.inl o) => cond (Nat.beq o.1 q.1) (match o.2[q.2.1]? with
        | some _ => zpt q.2.2 x (K (σ.set k (.inl (o.1, o.2.set q.2.1 (.inl x))), nx, lv, r))
        | none => False) False
      | _ => False)
    | _, _ => False
  | .iaload => match st with
    | .inl j :: .inr (.inl k) :: r => (match σ[k]? with
      | some (.inr (.inl a)) => vp_in j a.1 ∧ K (σ, nx, lv, .inl (a.2 j.toNatClampNeg) :: r)
      | _ => False)
    | .inl j :: .inr (.inr q) :: r => (match σ[q.1]? with
      | some (.inr (.inr f)) => (q.2 < 12 ∧ vp_in j 12) ∧ K (σ, nx, lv, .inl (f q.2 j.toNatClampNeg) :: r)
      | _ => False)
    | _ => False
  | .iastore => match st with
    | .inl x :: .inl j :: .inr (.inl k) :: r => (match σ[k]? with
      | some (.inr (.inl a)) => vp_in j a.1 ∧ K (σ.set k (.inr (.inl (a.1, upd a.2 j.toNatClampNeg x))), nx, lv, r)
      | _ => False)
    | .inl x :: .inl j :: .inr (.inr q) :: r => (match σ[q.1]? with
      | some (.inr (.inr f)) => (q.2 < 12 ∧ vp_in j 12) ∧ K (σ.set q.1 (.inr (.inr (zup f q.2 (upd (f q.2) j.toNatClampNeg x)))), nx, lv, r)
      | _ => False)
    | _ => False
  | .aaload => match st with
    | .inl j :: .inr (.inl k) :: r => (match σ[k]? with
      | some (.inr (.inr _)) => vp_in j 12 ∧ K (σ, nx, lv, .inr (.inr (k, j.toNatClampNeg)) :: r)
      | _ => False)
    | _ => False
  | .arraylength => match st with
    | .inr (.inl k) :: r => (match σ[k]? with
      | some (.inr (.inl a)) => K (σ, nx, lv, .inl (Int32.ofNat a.1) :: r)
      | _ => False)
    | .inr (.inr q) :: r => (match σ[q.1]? with
      | some (.inr (.inr _)) => q.2 < 12 ∧ K (σ, nx, lv, .inl (Int32.ofNat 12) :: r)
      | _ => False)
    | _ => False
  | .ireturn => match st with
    | [.inl x] => zpt M.2.2.2.2.2 x (Q (some (.inl x)) σ)
    | _ => False
  | .return_ => match M.2.2.2.2.2, st with
    | 0, [] => Q none σ
    | _, _ => False
  | .tableswitch d lo hi offs => match st with
    | .inl x :: r => (x.toInt < lo ∨ hi < x.toInt → K (σ, ((pc : Int) + d).toNat, lv, r)) ∧ ∀ off, ¬ x.toInt < lo → ¬ hi < x.toInt → offs[(x.toInt - lo).toNat]? = some off → K (σ, ((pc : Int) + off).toNat, lv, r)
    | _ => False
  | .invokevirtual n => match zq_f n M.2.2.2.1 with
    | some q => (match (st.take (q.1 + 1)).reverse with
      | .inr (.inl k) :: as => (match σ[k]? with
        | some (.inl o) => cond (Nat.beq o.1 q.2.1 && (Nat.ble (st.drop (q.1 + 1)).length 8 && Nat.beq as.length q.1)) (q.2.2 (.inr (.inl k) :: as) σ (fun r σ' => K (σ', nx, lv, r.toList ++ st.drop (q.1 + 1)))) False
        | _ => False)
      | _ => False)
    | none => False
  | .invokestatic n => cond (zq_in n M.2.2.2.2.1)
      (match st with
      | .inl c :: .inl dp :: .inr (.inr d) :: .inl sp :: .inr (.inr s) :: r => (match σ[d.1]?, σ[s.1]? with
        | some (.inr (.inr g)), some (.inr (.inr f)) => cond (Nat.ble r.length 8 && !(Nat.beq d.1 s.1)) ((d.2 < 12 ∧ s.2 < 12 ∧ sp = 0 ∧ dp = 0 ∧ c = 12) ∧ K (σ.set d.1 (.inr (.inr (zup g d.2 (va_cpy (f s.2) (g d.2) 0 0 12)))), nx, lv, r)) False
        | _, _ => False)
      | _ => False)
      (match zq_f n M.2.2.2.1 with
      | some q => cond (Nat.ble 100 q.2.1 && (Nat.ble (st.drop q.1).length 8 && Nat.beq (st.take q.1).length q.1)) (q.2.2 (st.take q.1).reverse σ (fun r σ' => K (σ', nx, lv, r.toList ++ st.drop q.1))) False
      | none => False)
  | _ => False
def zst (M : zM) (Q : zP) (t : zT) (K : zT → Prop) : Prop :=
  match zq_f t.2.1 M.1 with
  | some q => zex M Q t.2.1 q.1 q.2.1 q.2.2.1 q.2.2.2 t.1 t.2.2.1 t.2.2.2 K
  | none => False
/-- from here up to the first place of S that is come to -/
def zwp (M : zM) (Q : zP) (S : List Nat) : Nat → zT → (zT → Prop) → Prop
  | 0, _, _ => False
  | n + 1, t, K => zst M Q t (fun u => cond (zq_in u.2.1 S) (K u) (zwp M Q S n u K))
/-- a predicate of states that every good end of a walk is in -/
def zcl (M : zM) (Q : zP) (Z : zT → Prop) : Prop := ∀ (S : List Nat) (n : Nat) (t : zT), zwp M Q S n t Z → Z t
end
section
/-! THE GENERATOR IS SOUND over the machine. -/
def zAll : List Cond := lw_tbl.filter goodWord
def zNW : List Cond := [.methodLinkNest RX2 30 ⟨RX4, "separates", "(III)Z"⟩ RX4, .methodLinkNest RX3 54 ⟨RX4, "only", "(I)I"⟩ RX4, .methodLinkNest RX3 58 ⟨RX4, "holds", "(II)Z"⟩ RX4, .methodLinkNest RX1 77 ⟨RX4, "holds", "(II)Z"⟩ RX4, .methodLinkNest RX1 89 ⟨RX4, "only", "(I)I"⟩ RX4, .methodLinkNest RX1 110 ⟨RX4, "separates", "(III)Z"⟩ RX4]
theorem zNW_in : ∀ w ∈ zNW, w ∈ lw_tbl := by decide +kernel
def zv (α : zA) : zV → Value
  | .inl x => .int x
  | .inr (.inl k) => .ref (α.1 k)
  | .inr (.inr q) => .ref (α.2.1 q.1 q.2)
theorem zv_cat (α : zA) (v : zV) : (zv α v).category = 1 := by
  rcases v with x | k | q <;> rfl
theorem zv_sum (α : zA) (l : List zV) : ((l.map (zv α)).map fun v => v.category).sum = l.length := by
  induction l with
  | nil => rfl
  | cons a l ih => simp only [List.map_cons, List.sum_cons, List.length_cons, ih, zv_cat]; omega
def zce (α : zA) (k : Nat) : zC → va_W
  | .inl o => [(α.1 k, .inr (o.1, o.2.map (zv α)))]
  | .inr (.inl a) => [(α.1 k, .inl (α.2.2.1, a.1, .inl a.2))]
  | .inr (.inr f) => (α.1 k, .inl (α.2.2.2, 12, .inr (.inr (.inr (.inr (fun i => if i < 12 then some (α.2.1 k i) else none)))))) :: (List.range 12).map (fun i => (α.2.1 k i, .inl (α.2.2.1, 12, .inl (f i))))
def zcs (α : zA) (o : Nat) : zS → va_W
  | [] => []
  | c :: r => zce α o c ++ zcs α (o + 1) r
abbrev zc (α : zA) (σ : zS) : va_W := zcs α 0 σ
abbrev zty (α : zA) : List (ClassId × FieldType) := [(α.2.2.1, .int), (α.2.2.2, .array .int)]
theorem zcs_get {α : zA} {c : zC} {x : Nat × va_E} {j : Nat} : ∀ (σ : zS) (o k : Nat), σ[k]? = some c → (zce α (o + k) c)[j]? = some x → ∃ q : Nat, (zcs α o σ)[q]? = some x
  | [], o, k, h, _ => by simp at h
  | d :: r, o, 0, h, hx => by
    simp at h; subst h
    rw [Nat.add_zero] at hx
    refine ⟨j, ?_⟩
    have hl := (List.getElem?_eq_some_iff.mp hx).1
    show (zce α o d ++ zcs α (o + 1) r)[j]? = some x
    rw [List.getElem?_append_left hl]
    exact hx
  | d :: r, o, k + 1, h, hx => by
    rw [List.getElem?_cons_succ] at h
    obtain ⟨q, hq⟩ := zcs_get r (o + 1) k h (by rw [show o + 1 + k = o + (k + 1) by omega]; exact hx)
    refine ⟨(zce α o d).length + q, ?_⟩
    show (zce α o d ++ zcs α (o + 1) r)[_]? = some x
    rw [List.getElem?_append_right (by omega), Nat.add_sub_cancel_left]
    exact hq
theorem zcs_set {α : zA} {c c' : zC} {x x' : Nat × va_E} {j : Nat} : ∀ (σ : zS) (o k : Nat), σ[k]? = some c → (zce α (o + k) c)[j]? = some x → zce α (o + k) c' = (zce α (o + k) c).set j x' → ∃ q : Nat, (zcs α o σ)[q]? = some x ∧ zcs α o (σ.set k c') = (zcs α o σ).set q x'
  | [], o, k, h, _, _ => by simp at h
  | d :: r, o, 0, h, hx, hs => by
    simp at h; subst h
    rw [Nat.add_zero] at hx hs
    have hl := (List.getElem?_eq_some_iff.mp hx).1
    refine ⟨j, ?_, ?_⟩
    · show (zce α o d ++ zcs α (o + 1) r)[j]? = some x
      rw [List.getElem?_append_left hl]
      exact hx
    · show zce α o c' ++ zcs α (o + 1) r = (zce α o d ++ zcs α (o + 1) r).set j x'
      rw [List.set_append_left _ _ hl]
      exact congrArg (· ++ zcs α (o + 1) r) hs
  | d :: r, o, k + 1, h, hx, hs => by
    rw [List.getElem?_cons_succ] at h
    have e : o + 1 + k = o + (k + 1) := by omega
    obtain ⟨q, hq, hq2⟩ := zcs_set r (o + 1) k h (by rw [e]; exact hx) (by rw [e]; exact hs)
    refine ⟨(zce α o d).length + q, ?_, ?_⟩
    · show (zce α o d ++ zcs α (o + 1) r)[_]? = some x
      rw [List.getElem?_append_right (by omega), Nat.add_sub_cancel_left]
      exact hq
    · show zce α o d ++ zcs α (o + 1) (r.set k c') = (zce α o d ++ zcs α (o + 1) r).set _ x'
      rw [List.set_append_right _ _ (by omega), Nat.add_sub_cancel_left, hq2]
theorem zc_get {α : zA} {c : zC} {x : Nat × va_E} {σ : zS} {k : Nat} (j : Nat) (h : σ[k]? = some c) (hx : (zce α k c)[j]? = some x) : ∃ q : Nat, (zc α σ)[q]? = some x := zcs_get σ 0 k h (by rw [Nat.zero_add]; exact hx)
theorem zc_set {α : zA} {c c' : zC} {x x' : Nat × va_E} {σ : zS} {k : Nat} (j : Nat) (h : σ[k]? = some c) (hx : (zce α k c)[j]? = some x) (hs : zce α k c' = (zce α k c).set j x') : ∃ q : Nat, (zc α σ)[q]? = some x ∧ zc α (σ.set k c') = (zc α σ).set q x' := zcs_set σ 0 k h (by rw [Nat.zero_add]; exact hx) (by rw [Nat.zero_add]; exact hs)
theorem zce_row {α : zA} {k i : Nat} {f : Nat → Nat → Int32} (hi : i < 12) : (zce α k (.inr (.inr f)))[i + 1]? = some (α.2.1 k i, .inl (α.2.2.1, 12, .inl (f i))) := by
  show ((α.1 k, _) :: (List.range 12).map _)[i + 1]? = _
  rw [List.getElem?_cons_succ, List.getElem?_map, List.getElem?_range hi]
  rfl
theorem zce_rowset {α : zA} {k i : Nat} {f : Nat → Nat → Int32} (g : Nat → Int32) (hi : i < 12) : zce α k (.inr (.inr (zup f i g))) = (zce α k (.inr (.inr f))).set (i + 1) (α.2.1 k i, .inl (α.2.2.1, 12, .inl g)) := by
  show (α.1 k, _) :: (List.range 12).map _ = ((α.1 k, _) :: (List.range 12).map _).set (i + 1) _
  rw [List.set_cons_succ]
  congr 1
  apply List.ext_getElem?
  intro j
  by_cases hj : j < 12
  · by_cases e : j = i
    · subst e
      rw [List.getElem?_set_self (by simpa using hj), List.getElem?_map, List.getElem?_range hj]
      simp [zup]
    · rw [List.getElem?_set_ne (Ne.symm e), List.getElem?_map, List.getElem?_map, List.getElem?_range hj]
      simp [zup, e]
  · rw [List.getElem?_eq_none (by simpa using hj), List.getElem?_eq_none (by simpa using hj)]
/-- the locals -/
def zlv (α : zA) (o : Nat) : List (Option zV) → List (Nat × Value)
  | [] => []
  | none :: r => zlv α (o + 1) r
  | some v :: r => (o, zv α v) :: zlv α (o + 1) r
theorem zlv_mem {α : zA} : ∀ (lv : List (Option zV)) (o : Nat) (q : Nat × Value), q ∈ zlv α o lv ↔ ∃ k v, lv[k]? = some (some v) ∧ q = (o + k, zv α v)
  | [], o, q => by simp [zlv]
  | none :: r, o, q => by
    show q ∈ zlv α (o + 1) r ↔ _
    rw [zlv_mem r (o + 1) q]
    constructor
    · rintro ⟨k, v, h1, h2⟩
      exact ⟨k + 1, v, by rw [List.getElem?_cons_succ]; exact h1, by rw [h2]; congr 1; omega⟩
    · rintro ⟨k, v, h1, h2⟩
      cases k with
      | zero => simp at h1
      | succ k => exact ⟨k, v, by rw [List.getElem?_cons_succ] at h1; exact h1, by rw [h2]; congr 1; omega⟩
  | some w :: r, o, q => by
    show q ∈ (o, zv α w) :: zlv α (o + 1) r ↔ _
    rw [List.mem_cons, zlv_mem r (o + 1) q]
    constructor
    · rintro (h | ⟨k, v, h1, h2⟩)
      · exact ⟨0, w, by simp, by rw [h]; rfl⟩
      · exact ⟨k + 1, v, by rw [List.getElem?_cons_succ]; exact h1, by rw [h2]; congr 1; omega⟩
    · rintro ⟨k, v, h1, h2⟩
      cases k with
      | zero => simp at h1; subst h1; exact Or.inl h2
      | succ k => exact Or.inr ⟨k, v, by rw [List.getElem?_cons_succ] at h1; exact h1, by rw [h2]; congr 1; omega⟩
def zls (α : zA) (ls : Array Slot) (nL : Nat) (lv : List (Option zV)) : Prop := lv.length = nL ∧ lv_has ls nL (zlv α 0 lv)
theorem zls_at {α : zA} {ls : Array Slot} {nL : Nat} {lv : List (Option zV)} {k : Nat} {v : zV} (h : zls α ls nL lv) (hk : lv[k]? = some (some v)) : ls[k]? = some (.val (zv α v)) :=
  h.2.2.2 (k, zv α v) ((zlv_mem lv 0 _).mpr ⟨k, v, hk, by rw [Nat.zero_add]⟩)
theorem zls_set {α : zA} {ls ls' : Array Slot} {nL : Nat} {lv : List (Option zV)} {i : Nat} {v : zV} (h : zls α ls nL lv) (hi : i < nL) (h' : lv_has ls' nL ((i, zv α v) :: (zlv α 0 lv).filter (fun q => !(q.1 == i) && !(q.1 + 1 == i && q.2.category == 2)))) : zls α ls' nL (lv.set i (some v)) := by
  refine ⟨by rw [List.length_set]; exact h.1, h'.1, h'.2.1, fun q hq => ?_⟩
  obtain ⟨k, w, h1, rfl⟩ := (zlv_mem _ 0 q).mp hq
  rw [Nat.zero_add]
  by_cases e : k = i
  · subst e
    rw [List.getElem?_set_self (by rw [h.1]; exact hi)] at h1
    cases h1
    exact h'.2.2 _ List.mem_cons_self
  · rw [List.getElem?_set_ne (Ne.symm e)] at h1
    refine h'.2.2 (k, zv α w) (List.mem_cons_of_mem _ (List.mem_filter.mpr ⟨(zlv_mem lv 0 _).mpr ⟨k, w, h1, by rw [Nat.zero_add]⟩, ?_⟩))
    simp [e, zv_cat]
/-- what a method may take as given of a state -/
def zU (D : va_G) (α : zA) (σ : zS) (U : State) : Prop := va_P D vwCl (zc α σ) U.heap ∧ va_K D vwCl (zty α) U ∧ va_D (fun _ => True) (zc α σ) ∧ ∀ w ∈ zNW, va_Nw w U
def zQc (D : va_G) (α : zA) (A : Nat → Prop) (P : zP) : Array Value → State → Outcome → State → Prop := fun _ s o t => (∃ (r : Option zV) (σ : zS), o = .returned (r.map (zv α)) ∧ P r σ ∧ va_P D vwCl (zc α σ) t.heap ∧ va_D A (zc α σ)) ∧ va_F A s t
/-- the machine's method y keeps the contract C -/
def zMet (l : Launch) (y : MethodName) (cc : ByteArray) (mx : Nat) (ret : Option FieldType) (rm : Room) (C : zK) : Prop := ∀ (D : va_G) (α : zA) (sz : Nat) (σ : zS) (as : List zV) (P : zP), C as σ P → Met l y (.code y cc mx ret :: zAll) rm (va_Pc (as.map (zv α)) (fun U => U.heap.size = sz ∧ zU D α σ U)) (zQc D α (va_A (zc α σ) sz) P) 0 0 (va_A (zc α σ) sz)
/-- the tables of a method are right -/
def zIok (cc : ByteArray) (q : zI) : Bool :=
  decide (decode cc q.1 = .ok (q.2.1, q.2.2.1 - q.1)) && (decide (q.1 ≤ q.2.2.1) && match q.2.1 with
  | .if_icmp _ off => decide ((q.1 : Int) + off = (q.2.2.2.1 : Int)) && decide (q.2.2.1 - q.1 = 3)
  | .ifCond _ off => decide ((q.1 : Int) + off = (q.2.2.2.1 : Int)) && decide (q.2.2.1 - q.1 = 3)
  | .goto off => decide ((q.1 : Int) + off = (q.2.2.2.1 : Int)) && decide (q.2.2.1 - q.1 = 3)
  | .iconst n => decide (Int32.ofInt n = q.2.2.2.2) && decide (q.2.2.1 - q.1 = 1)
  | .bipush n => decide ((Int8.ofInt n).toInt32 = q.2.2.2.2) && decide (q.2.2.1 - q.1 = 2)
  | .sipush n => decide ((Int16.ofInt n).toInt32 = q.2.2.2.2) && decide (q.2.2.1 - q.1 = 3)
  | .iinc _ n => decide (Int32.ofInt n = q.2.2.2.2) && decide (q.2.2.1 - q.1 = 3)
  | .iload _ => decide (q.2.2.1 - q.1 = 2)
  | .istore _ => decide (q.2.2.1 - q.1 = 2)
  | .ldc _ => decide (q.2.2.1 - q.1 = 2)
  | .ldc_w _ => decide (q.2.2.1 - q.1 = 3)
  | .getfield _ => decide (q.2.2.1 - q.1 = 3)
  | .putfield _ => decide (q.2.2.1 - q.1 = 3)
  | .invokevirtual _ => decide (q.2.2.1 - q.1 = 3)
  | .invokestatic _ => decide (q.2.2.1 - q.1 = 3)
  | .tableswitch d lo hi offs => decide (0 ≤ (q.1 : Int) + d) && (decide (hi - lo < (offs.size : Int)) && offs.all (fun off => decide (0 ≤ (q.1 : Int) + off)))
  | _ => decide (q.2.2.1 - q.1 = 1))
def zFok (own : String) (q : zF) : Bool := match vwCl[q.2.1]? with
  | some r => decide (q.2.2.1 < r.2.2) && (decide (Cond.fieldLink own q.1 (r.2.1 q.2.2.1).1 (r.2.1 q.2.2.1).2.1 (r.2.1 q.2.2.1).2.2.1 ∈ zAll) && (if q.2.2.2 = 0 then true else !(r.2.1 q.2.2.1).2.2.2 && (if q.2.2.2 = 1 then decide ((r.2.1 q.2.2.1).2.2.1 = "I") else decide ((r.2.1 q.2.2.1).2.2.1 = "Z"))))
  | none => false
def zRok (R : Room) (mx : Nat) (rm : Room) : Bool := decide (rm.cells = 0) && (decide (rm.slots = 0) && (Nat.ble (rm.frames + 1) R.frames && Nat.ble (8 + (mx + 11) + rm.locals) R.locals))
def zYok (y : MethodName) (cc : ByteArray) (mx : Nat) (ret : Option FieldType) (n : Nat) : Bool := decide (Cond.code y cc mx ret ∈ zAll) && (decide (Cond.initialized y.cls ∈ zAll) && (decide (y.cls ≠ "java/lang/invoke/MethodHandle") && (decide (y.cls ≠ "java/lang/invoke/VarHandle") && decide ((parseMethodDescriptor y.desc).map (fun d => d.parameters.length) = some n))))
/-- how a call is linked: of an object of class ci, static (100), static of a nest mate (101) -/
def zLk (own : String) (idx ci : Nat) (y : MethodName) : Bool :=
  if ci < 100 then decide (Cond.methodLink own idx y ∈ zAll) && (decide (Cond.instanceMethod y ∈ zAll) && (decide (Cond.selects y.cls y y ∈ zAll) && (match vwCl[ci]? with | some r => decide (r.1 = y.cls) | none => false)))
  else if ci = 100 then decide (Cond.methodLink own idx y ∈ zAll) && decide (Cond.static y ∈ zAll)
  else decide (Cond.methodLinkNest own idx y RX4 ∈ zNW) && decide (Cond.static y ∈ zAll)
def zLok (l : Launch) (own : String) (R : Room) (q : zL) : Prop := ∃ (y : MethodName) (cc : ByteArray) (mx : Nat) (ret : Option FieldType) (rm : Room), zMet l y cc mx ret rm q.2.2.2 ∧ zRok R mx rm = true ∧ zYok y cc mx ret q.2.1 = true ∧ zLk own q.1 q.2.2.1 y = true
end
section
/-! ONE STEP of the generator, over the machine. -/
theorem zq_f_mem {β : Type} {k : Nat} {v : β} : ∀ (l : List (Nat × β)), zq_f k l = some v → (k, v) ∈ l
  | [], h => by simp [zq_f] at h
  | q :: l, h => by
    unfold zq_f at h
    cases e : Nat.beq k q.1 with
    | true =>
      rw [e] at h
      have e2 := Nat.eq_of_beq_eq_true e
      simp only [cond_true, Option.some.injEq] at h
      rw [e2, ← h]
      exact List.mem_cons_self
    | false =>
      rw [e] at h
      exact List.mem_cons_of_mem _ (zq_f_mem l h)
theorem zq_in_mem {k : Nat} : ∀ (l : List Nat), zq_in k l = true → k ∈ l
  | [], h => by simp [zq_in] at h
  | q :: l, h => by
    unfold zq_in at h
    cases e : Nat.beq k q with
    | true => rw [Nat.eq_of_beq_eq_true e]; exact List.mem_cons_self
    | false =>
      rw [e] at h
      exact List.mem_cons_of_mem _ (zq_in_mem l h)
theorem zcond {b : Bool} {A : Prop} (h : cond b A False) : b = true ∧ A := by
  cases b with
  | true => exact ⟨rfl, h⟩
  | false => exact h.elim
def zCpy (own : String) (R : Room) (n : Nat) : Bool := decide (Cond.methodLink own n arraycopyName ∈ zAll) && (decide (Cond.native arraycopyName ∈ zAll) && (decide (Cond.static arraycopyName ∈ zAll) && (decide (Cond.initialized "java/lang/System" ∈ zAll) && (Nat.ble 1 R.frames && Nat.ble (8 + (nativeFrameWords "java/lang/System" "arraycopy" 5 + 11)) R.locals))))
def zrt : Nat → Option FieldType
  | 0 => none
  | 1 => some .int
  | _ => some .boolean
def zOK (l : Launch) (own : String) (cc : ByteArray) (R : Room) (ret : Option FieldType) (M : zM) : Prop :=
  (∀ q ∈ M.1, zIok cc q = true) ∧ (∀ q ∈ M.2.1, zFok own q = true) ∧ (∀ q ∈ M.2.2.1, Cond.constant own q.1 q.2 ∈ zAll) ∧ (∀ q ∈ M.2.2.2.1, zLok l own R q) ∧ (∀ n ∈ M.2.2.2.2.1, zCpy own R n = true) ∧ ret = zrt M.2.2.2.2.2
def zX (p : Program) (s : State) (m : MethodId) (args : Array Value) (meth : Method) (c : Code) (cc : ByteArray) (own : String) (nL : Nat) (D : va_G) (α : zA) (A : Nat → Prop) (ret : Option FieldType) : Prop :=
  p.tables.exec = Jvm.exec ∧ c.code = cc ∧ c.maxLocals = nL ∧ s.vm.findClass own = some m.cls ∧ (∀ w ∈ zAll, w.before args s = true) ∧ va_K D vwCl (zty α) s ∧ (∀ w ∈ zNW, va_Nw w s) ∧ (∀ q, s.heap.size ≤ q → A q) ∧ meth.locks = false ∧ meth.sig.returnType = ret
theorem zcls : ∀ (ci : Nat) (r : vw_C), vwCl[ci]? = some r → (∀ w ∈ u_ws r.1 r.2.1 r.2.2, w ∈ zAll) ∧ (∃ ty0 : Nat → FieldType, ∀ k, k < r.2.2 → parseFieldDescriptor (r.2.1 k).2.2.1 = some (ty0 k)) ∧ ∀ a, a < r.2.2 → ∀ b, b < r.2.2 → a ≠ b → (r.2.1 a).2.1 ≠ (r.2.1 b).2.1 := by
  intro ci r h
  match ci, h with
  | 0, h => cases h; exact ⟨by decide +kernel, ⟨tyX0, tyX0_ok⟩, nmX0⟩
  | 1, h => cases h; exact ⟨by decide +kernel, ⟨tyX1, tyX1_ok⟩, nmX1⟩
  | 2, h => cases h; exact ⟨by decide +kernel, ⟨tyX2, tyX2_ok⟩, nmX2⟩
  | 3, h => cases h; exact ⟨by decide +kernel, ⟨tyX3, tyX3_ok⟩, nmX3⟩
  | 4, h => cases h; exact ⟨by decide +kernel, ⟨tyX4, tyX4_ok⟩, nmX4⟩
  | 5, h => cases h; exact ⟨by decide +kernel, ⟨tyX5, tyX5_ok⟩, nmX5⟩
  | k + 6, h => simp [vwCl] at h
section ZST
variable {p : Program} {l : Launch} {e : Env} {R : Room} {s : State} {m : MethodId} {args : Array Value} {below : List Frame} {meth : Method} {c : Code}
variable {cc : ByteArray} {own : String} {nL : Nat} {D : va_G} {α : zA} {A : Nat → Prop} {ret : Option FieldType} {M : zM} {P : zP}
def zZ (p : Program) (l : Launch) (e : Env) (R : Room) (s : State) (m : MethodId) (args : Array Value) (below : List Frame) (meth : Method) (c : Code) (nL : Nat) (D : va_G) (α : zA) (A : Nat → Prop) (P : zP) (t : zT) : Prop :=
  ∀ (H : Heap) (locs : List Loc) (ls : Array Slot), va_P D vwCl (zc α t.1) H → va_D A (zc α t.1) → va_S A s.heap H locs → zls α ls nL t.2.2.1 → W p l e R s m args below meth c H locs 0 0 (MQ below (zQc D α A P) args s 0 0 A) (F0 m t.2.1 ls (t.2.2.2.map (zv α)))

theorem zs_iload_n (X : zX p s m args meth c cc own nL D α A ret) (O : zOK l own cc R ret M) {K : zT → Prop} (hK : ∀ t, K t → zZ p l e R s m args below meth c nL D α A P t) {pc nx tg : Nat} {iv : Int32} {σ : zS} {lv : List (Option zV)} {st : List zV} {k : Fin 4} (hi : zIok cc (pc, .iload_n k, nx, tg, iv) = true) (h : zex M P pc (.iload_n k) nx tg iv σ lv st K) : zZ p l e R s m args below meth c nL D α A P (σ, pc, lv, st) := by
  obtain ⟨hx, hb, hml, hown, hts, hKK, hnw, hA, hlk, hret⟩ := X
  simp only [zIok, Bool.and_eq_true, decide_eq_true_eq] at hi
  obtain ⟨hd, hle, hn⟩ := hi
  obtain rfl : nx = pc + 1 := by omega
  rw [Nat.add_sub_cancel_left] at hd
  intro H locs ls hP hD hS hl
  dsimp only [zex] at h
  split at h
  · rename_i x he
    exact lv_iload_n hx hb hd rfl (zls_at hl he) (hK _ h H locs ls hP hD hS hl)
  · exact h.elim
theorem zs_iload (X : zX p s m args meth c cc own nL D α A ret) (O : zOK l own cc R ret M) {K : zT → Prop} (hK : ∀ t, K t → zZ p l e R s m args below meth c nL D α A P t) {pc nx tg : Nat} {iv : Int32} {σ : zS} {lv : List (Option zV)} {st : List zV} {k : Nat} (hi : zIok cc (pc, .iload k, nx, tg, iv) = true) (h : zex M P pc (.iload k) nx tg iv σ lv st K) : zZ p l e R s m args below meth c nL D α A P (σ, pc, lv, st) := by
  obtain ⟨hx, hb, hml, hown, hts, hKK, hnw, hA, hlk, hret⟩ := X
  simp only [zIok, Bool.and_eq_true, decide_eq_true_eq] at hi
  obtain ⟨hd, hle, hn⟩ := hi
  obtain rfl : nx = pc + 2 := by omega
  rw [Nat.add_sub_cancel_left] at hd
  intro H locs ls hP hD hS hl
  dsimp only [zex] at h
  split at h
  · rename_i x he
    exact lv_iload hx hb hd (zls_at hl he) (hK _ h H locs ls hP hD hS hl)
  · exact h.elim
theorem zs_aload_n (X : zX p s m args meth c cc own nL D α A ret) (O : zOK l own cc R ret M) {K : zT → Prop} (hK : ∀ t, K t → zZ p l e R s m args below meth c nL D α A P t) {pc nx tg : Nat} {iv : Int32} {σ : zS} {lv : List (Option zV)} {st : List zV} {k : Fin 4} (hi : zIok cc (pc, .aload_n k, nx, tg, iv) = true) (h : zex M P pc (.aload_n k) nx tg iv σ lv st K) : zZ p l e R s m args below meth c nL D α A P (σ, pc, lv, st) := by
  obtain ⟨hx, hb, hml, hown, hts, hKK, hnw, hA, hlk, hret⟩ := X
  simp only [zIok, Bool.and_eq_true, decide_eq_true_eq] at hi
  obtain ⟨hd, hle, hn⟩ := hi
  obtain rfl : nx = pc + 1 := by omega
  rw [Nat.add_sub_cancel_left] at hd
  intro H locs ls hP hD hS hl
  dsimp only [zex] at h
  split at h
  · rename_i x he
    have h1 := zls_at hl he
    rcases x with k' | q
    · exact lv_aload_n hx hb hd rfl h1 (hK _ h H locs ls hP hD hS hl)
    · exact lv_aload_n hx hb hd rfl h1 (hK _ h H locs ls hP hD hS hl)
  · exact h.elim
theorem zs_iconst (X : zX p s m args meth c cc own nL D α A ret) (O : zOK l own cc R ret M) {K : zT → Prop} (hK : ∀ t, K t → zZ p l e R s m args below meth c nL D α A P t) {pc nx tg : Nat} {iv : Int32} {σ : zS} {lv : List (Option zV)} {st : List zV} {z : Int} (hi : zIok cc (pc, .iconst z, nx, tg, iv) = true) (h : zex M P pc (.iconst z) nx tg iv σ lv st K) : zZ p l e R s m args below meth c nL D α A P (σ, pc, lv, st) := by
  obtain ⟨hx, hb, hml, hown, hts, hKK, hnw, hA, hlk, hret⟩ := X
  simp only [zIok, Bool.and_eq_true, decide_eq_true_eq] at hi
  obtain ⟨hd, hle, hv, hn⟩ := hi
  obtain rfl : nx = pc + 1 := by omega
  rw [Nat.add_sub_cancel_left] at hd
  intro H locs ls hP hD hS hl
  dsimp only [zex] at h
  exact lv_iconst hx hb hd hv (hK _ h H locs ls hP hD hS hl)
theorem zs_bipush (X : zX p s m args meth c cc own nL D α A ret) (O : zOK l own cc R ret M) {K : zT → Prop} (hK : ∀ t, K t → zZ p l e R s m args below meth c nL D α A P t) {pc nx tg : Nat} {iv : Int32} {σ : zS} {lv : List (Option zV)} {st : List zV} {z : Int} (hi : zIok cc (pc, .bipush z, nx, tg, iv) = true) (h : zex M P pc (.bipush z) nx tg iv σ lv st K) : zZ p l e R s m args below meth c nL D α A P (σ, pc, lv, st) := by
  obtain ⟨hx, hb, hml, hown, hts, hKK, hnw, hA, hlk, hret⟩ := X
  simp only [zIok, Bool.and_eq_true, decide_eq_true_eq] at hi
  obtain ⟨hd, hle, hv, hn⟩ := hi
  obtain rfl : nx = pc + 2 := by omega
  rw [Nat.add_sub_cancel_left] at hd
  intro H locs ls hP hD hS hl
  dsimp only [zex] at h
  exact lv_bipush hx hb hd hv (hK _ h H locs ls hP hD hS hl)
theorem zs_sipush (X : zX p s m args meth c cc own nL D α A ret) (O : zOK l own cc R ret M) {K : zT → Prop} (hK : ∀ t, K t → zZ p l e R s m args below meth c nL D α A P t) {pc nx tg : Nat} {iv : Int32} {σ : zS} {lv : List (Option zV)} {st : List zV} {z : Int} (hi : zIok cc (pc, .sipush z, nx, tg, iv) = true) (h : zex M P pc (.sipush z) nx tg iv σ lv st K) : zZ p l e R s m args below meth c nL D α A P (σ, pc, lv, st) := by
  obtain ⟨hx, hb, hml, hown, hts, hKK, hnw, hA, hlk, hret⟩ := X
  simp only [zIok, Bool.and_eq_true, decide_eq_true_eq] at hi
  obtain ⟨hd, hle, hv, hn⟩ := hi
  obtain rfl : nx = pc + 3 := by omega
  rw [Nat.add_sub_cancel_left] at hd
  intro H locs ls hP hD hS hl
  dsimp only [zex] at h
  exact lv_sipush hx hb hd hv (hK _ h H locs ls hP hD hS hl)
theorem zs_ldc (X : zX p s m args meth c cc own nL D α A ret) (O : zOK l own cc R ret M) {K : zT → Prop} (hK : ∀ t, K t → zZ p l e R s m args below meth c nL D α A P t) {pc nx tg : Nat} {iv : Int32} {σ : zS} {lv : List (Option zV)} {st : List zV} {k : Nat} (hi : zIok cc (pc, .ldc k, nx, tg, iv) = true) (h : zex M P pc (.ldc k) nx tg iv σ lv st K) : zZ p l e R s m args below meth c nL D α A P (σ, pc, lv, st) := by
  obtain ⟨hx, hb, hml, hown, hts, hKK, hnw, hA, hlk, hret⟩ := X
  simp only [zIok, Bool.and_eq_true, decide_eq_true_eq] at hi
  obtain ⟨hd, hle, hn⟩ := hi
  obtain rfl : nx = pc + 2 := by omega
  rw [Nat.add_sub_cancel_left] at hd
  intro H locs ls hP hD hS hl
  dsimp only [zex] at h
  split at h
  · rename_i v he
    exact lv_ldc hx hb hown (hts _ (O.2.2.1 _ (zq_f_mem _ he))) hd (hK _ h H locs ls hP hD hS hl)
  · exact h.elim
theorem zs_ldc_w (X : zX p s m args meth c cc own nL D α A ret) (O : zOK l own cc R ret M) {K : zT → Prop} (hK : ∀ t, K t → zZ p l e R s m args below meth c nL D α A P t) {pc nx tg : Nat} {iv : Int32} {σ : zS} {lv : List (Option zV)} {st : List zV} {k : Nat} (hi : zIok cc (pc, .ldc_w k, nx, tg, iv) = true) (h : zex M P pc (.ldc_w k) nx tg iv σ lv st K) : zZ p l e R s m args below meth c nL D α A P (σ, pc, lv, st) := by
  obtain ⟨hx, hb, hml, hown, hts, hKK, hnw, hA, hlk, hret⟩ := X
  simp only [zIok, Bool.and_eq_true, decide_eq_true_eq] at hi
  obtain ⟨hd, hle, hn⟩ := hi
  obtain rfl : nx = pc + 3 := by omega
  rw [Nat.add_sub_cancel_left] at hd
  intro H locs ls hP hD hS hl
  dsimp only [zex] at h
  split at h
  · rename_i v he
    exact lv_ldcw hx hb hown (hts _ (O.2.2.1 _ (zq_f_mem _ he))) hd (hK _ h H locs ls hP hD hS hl)
  · exact h.elim
theorem zs_istore_n (X : zX p s m args meth c cc own nL D α A ret) (O : zOK l own cc R ret M) {K : zT → Prop} (hK : ∀ t, K t → zZ p l e R s m args below meth c nL D α A P t) {pc nx tg : Nat} {iv : Int32} {σ : zS} {lv : List (Option zV)} {st : List zV} {k : Fin 4} (hi : zIok cc (pc, .istore_n k, nx, tg, iv) = true) (h : zex M P pc (.istore_n k) nx tg iv σ lv st K) : zZ p l e R s m args below meth c nL D α A P (σ, pc, lv, st) := by
  obtain ⟨hx, hb, hml, hown, hts, hKK, hnw, hA, hlk, hret⟩ := X
  simp only [zIok, Bool.and_eq_true, decide_eq_true_eq] at hi
  obtain ⟨hd, hle, hn⟩ := hi
  obtain rfl : nx = pc + 1 := by omega
  rw [Nat.add_sub_cancel_left] at hd
  intro H locs ls hP hD hS hl
  dsimp only [zex] at h
  split at h
  · rename_i x r y he
    have hk : k.val < nL := by rw [← hl.1]; exact (List.getElem?_eq_some_iff.mp he).1
    exact lv_istore_n hx hb hd rfl hl.2 hk rfl (fun ls2 hl2 => hK _ h H locs ls2 hP hD hS (zls_set (v := .inl x) hl hk hl2))
  · exact h.elim
theorem zs_istore (X : zX p s m args meth c cc own nL D α A ret) (O : zOK l own cc R ret M) {K : zT → Prop} (hK : ∀ t, K t → zZ p l e R s m args below meth c nL D α A P t) {pc nx tg : Nat} {iv : Int32} {σ : zS} {lv : List (Option zV)} {st : List zV} {k : Nat} (hi : zIok cc (pc, .istore k, nx, tg, iv) = true) (h : zex M P pc (.istore k) nx tg iv σ lv st K) : zZ p l e R s m args below meth c nL D α A P (σ, pc, lv, st) := by
  obtain ⟨hx, hb, hml, hown, hts, hKK, hnw, hA, hlk, hret⟩ := X
  simp only [zIok, Bool.and_eq_true, decide_eq_true_eq] at hi
  obtain ⟨hd, hle, hn⟩ := hi
  obtain rfl : nx = pc + 2 := by omega
  rw [Nat.add_sub_cancel_left] at hd
  intro H locs ls hP hD hS hl
  dsimp only [zex] at h
  split at h
  · rename_i x r y he
    have hk : k < nL := by rw [← hl.1]; exact (List.getElem?_eq_some_iff.mp he).1
    exact lv_istore hx hb hd hl.2 hk rfl (fun ls2 hl2 => hK _ h H locs ls2 hP hD hS (zls_set (v := .inl x) hl hk hl2))
  · exact h.elim
theorem zs_iinc (X : zX p s m args meth c cc own nL D α A ret) (O : zOK l own cc R ret M) {K : zT → Prop} (hK : ∀ t, K t → zZ p l e R s m args below meth c nL D α A P t) {pc nx tg : Nat} {iv : Int32} {σ : zS} {lv : List (Option zV)} {st : List zV} {k : Nat} {z : Int} (hi : zIok cc (pc, .iinc k z, nx, tg, iv) = true) (h : zex M P pc (.iinc k z) nx tg iv σ lv st K) : zZ p l e R s m args below meth c nL D α A P (σ, pc, lv, st) := by
  obtain ⟨hx, hb, hml, hown, hts, hKK, hnw, hA, hlk, hret⟩ := X
  simp only [zIok, Bool.and_eq_true, decide_eq_true_eq] at hi
  obtain ⟨hd, hle, hv, hn⟩ := hi
  obtain rfl : nx = pc + 3 := by omega
  rw [Nat.add_sub_cancel_left] at hd
  intro H locs ls hP hD hS hl
  dsimp only [zex] at h
  split at h
  · rename_i x he
    have hk : k < nL := by rw [← hl.1]; exact (List.getElem?_eq_some_iff.mp he).1
    obtain ⟨j, hj⟩ := List.getElem?_of_mem ((zlv_mem (α := α) lv 0 (k, .int x)).mpr ⟨k, .inl x, he, by rw [Nat.zero_add]; rfl⟩)
    exact lv_iinc hx hb hd hl.2 hj (by rw [hv]) hk rfl (fun ls2 hl2 => hK _ h H locs ls2 hP hD hS (zls_set (v := .inl (x + iv)) hl hk hl2))
  · exact h.elim
theorem zs_iadd (X : zX p s m args meth c cc own nL D α A ret) (O : zOK l own cc R ret M) {K : zT → Prop} (hK : ∀ t, K t → zZ p l e R s m args below meth c nL D α A P t) {pc nx tg : Nat} {iv : Int32} {σ : zS} {lv : List (Option zV)} {st : List zV}  (hi : zIok cc (pc, .iadd, nx, tg, iv) = true) (h : zex M P pc (.iadd) nx tg iv σ lv st K) : zZ p l e R s m args below meth c nL D α A P (σ, pc, lv, st) := by
  obtain ⟨hx, hb, hml, hown, hts, hKK, hnw, hA, hlk, hret⟩ := X
  simp only [zIok, Bool.and_eq_true, decide_eq_true_eq] at hi
  obtain ⟨hd, hle, hn⟩ := hi
  obtain rfl : nx = pc + 1 := by omega
  rw [Nat.add_sub_cancel_left] at hd
  intro H locs ls hP hD hS hl
  dsimp only [zex] at h
  split at h
  · rename_i y x r
    exact lv_iadd hx hb hd (hK _ h H locs ls hP hD hS hl)
  · exact h.elim
theorem zs_isub (X : zX p s m args meth c cc own nL D α A ret) (O : zOK l own cc R ret M) {K : zT → Prop} (hK : ∀ t, K t → zZ p l e R s m args below meth c nL D α A P t) {pc nx tg : Nat} {iv : Int32} {σ : zS} {lv : List (Option zV)} {st : List zV}  (hi : zIok cc (pc, .isub, nx, tg, iv) = true) (h : zex M P pc (.isub) nx tg iv σ lv st K) : zZ p l e R s m args below meth c nL D α A P (σ, pc, lv, st) := by
  obtain ⟨hx, hb, hml, hown, hts, hKK, hnw, hA, hlk, hret⟩ := X
  simp only [zIok, Bool.and_eq_true, decide_eq_true_eq] at hi
  obtain ⟨hd, hle, hn⟩ := hi
  obtain rfl : nx = pc + 1 := by omega
  rw [Nat.add_sub_cancel_left] at hd
  intro H locs ls hP hD hS hl
  dsimp only [zex] at h
  split at h
  · rename_i y x r
    exact lv_isub hx hb hd (hK _ h H locs ls hP hD hS hl)
  · exact h.elim
theorem zs_imul (X : zX p s m args meth c cc own nL D α A ret) (O : zOK l own cc R ret M) {K : zT → Prop} (hK : ∀ t, K t → zZ p l e R s m args below meth c nL D α A P t) {pc nx tg : Nat} {iv : Int32} {σ : zS} {lv : List (Option zV)} {st : List zV}  (hi : zIok cc (pc, .imul, nx, tg, iv) = true) (h : zex M P pc (.imul) nx tg iv σ lv st K) : zZ p l e R s m args below meth c nL D α A P (σ, pc, lv, st) := by
  obtain ⟨hx, hb, hml, hown, hts, hKK, hnw, hA, hlk, hret⟩ := X
  simp only [zIok, Bool.and_eq_true, decide_eq_true_eq] at hi
  obtain ⟨hd, hle, hn⟩ := hi
  obtain rfl : nx = pc + 1 := by omega
  rw [Nat.add_sub_cancel_left] at hd
  intro H locs ls hP hD hS hl
  dsimp only [zex] at h
  split at h
  · rename_i y x r
    exact lv_imul hx hb hd (hK _ h H locs ls hP hD hS hl)
  · exact h.elim
theorem zs_iand (X : zX p s m args meth c cc own nL D α A ret) (O : zOK l own cc R ret M) {K : zT → Prop} (hK : ∀ t, K t → zZ p l e R s m args below meth c nL D α A P t) {pc nx tg : Nat} {iv : Int32} {σ : zS} {lv : List (Option zV)} {st : List zV}  (hi : zIok cc (pc, .iand, nx, tg, iv) = true) (h : zex M P pc (.iand) nx tg iv σ lv st K) : zZ p l e R s m args below meth c nL D α A P (σ, pc, lv, st) := by
  obtain ⟨hx, hb, hml, hown, hts, hKK, hnw, hA, hlk, hret⟩ := X
  simp only [zIok, Bool.and_eq_true, decide_eq_true_eq] at hi
  obtain ⟨hd, hle, hn⟩ := hi
  obtain rfl : nx = pc + 1 := by omega
  rw [Nat.add_sub_cancel_left] at hd
  intro H locs ls hP hD hS hl
  dsimp only [zex] at h
  split at h
  · rename_i y x r
    exact lv_iand hx hb hd (hK _ h H locs ls hP hD hS hl)
  · exact h.elim
theorem zs_ior (X : zX p s m args meth c cc own nL D α A ret) (O : zOK l own cc R ret M) {K : zT → Prop} (hK : ∀ t, K t → zZ p l e R s m args below meth c nL D α A P t) {pc nx tg : Nat} {iv : Int32} {σ : zS} {lv : List (Option zV)} {st : List zV}  (hi : zIok cc (pc, .ior, nx, tg, iv) = true) (h : zex M P pc (.ior) nx tg iv σ lv st K) : zZ p l e R s m args below meth c nL D α A P (σ, pc, lv, st) := by
  obtain ⟨hx, hb, hml, hown, hts, hKK, hnw, hA, hlk, hret⟩ := X
  simp only [zIok, Bool.and_eq_true, decide_eq_true_eq] at hi
  obtain ⟨hd, hle, hn⟩ := hi
  obtain rfl : nx = pc + 1 := by omega
  rw [Nat.add_sub_cancel_left] at hd
  intro H locs ls hP hD hS hl
  dsimp only [zex] at h
  split at h
  · rename_i y x r
    exact lv_ior hx hb hd (hK _ h H locs ls hP hD hS hl)
  · exact h.elim
theorem zs_ixor (X : zX p s m args meth c cc own nL D α A ret) (O : zOK l own cc R ret M) {K : zT → Prop} (hK : ∀ t, K t → zZ p l e R s m args below meth c nL D α A P t) {pc nx tg : Nat} {iv : Int32} {σ : zS} {lv : List (Option zV)} {st : List zV}  (hi : zIok cc (pc, .ixor, nx, tg, iv) = true) (h : zex M P pc (.ixor) nx tg iv σ lv st K) : zZ p l e R s m args below meth c nL D α A P (σ, pc, lv, st) := by
  obtain ⟨hx, hb, hml, hown, hts, hKK, hnw, hA, hlk, hret⟩ := X
  simp only [zIok, Bool.and_eq_true, decide_eq_true_eq] at hi
  obtain ⟨hd, hle, hn⟩ := hi
  obtain rfl : nx = pc + 1 := by omega
  rw [Nat.add_sub_cancel_left] at hd
  intro H locs ls hP hD hS hl
  dsimp only [zex] at h
  split at h
  · rename_i y x r
    exact lv_ixor hx hb hd (hK _ h H locs ls hP hD hS hl)
  · exact h.elim
theorem zs_ishl (X : zX p s m args meth c cc own nL D α A ret) (O : zOK l own cc R ret M) {K : zT → Prop} (hK : ∀ t, K t → zZ p l e R s m args below meth c nL D α A P t) {pc nx tg : Nat} {iv : Int32} {σ : zS} {lv : List (Option zV)} {st : List zV}  (hi : zIok cc (pc, .ishl, nx, tg, iv) = true) (h : zex M P pc (.ishl) nx tg iv σ lv st K) : zZ p l e R s m args below meth c nL D α A P (σ, pc, lv, st) := by
  obtain ⟨hx, hb, hml, hown, hts, hKK, hnw, hA, hlk, hret⟩ := X
  simp only [zIok, Bool.and_eq_true, decide_eq_true_eq] at hi
  obtain ⟨hd, hle, hn⟩ := hi
  obtain rfl : nx = pc + 1 := by omega
  rw [Nat.add_sub_cancel_left] at hd
  intro H locs ls hP hD hS hl
  dsimp only [zex] at h
  split at h
  · rename_i y x r
    exact lv_ishl hx hb hd (hK _ h H locs ls hP hD hS hl)
  · exact h.elim
theorem zs_ishr (X : zX p s m args meth c cc own nL D α A ret) (O : zOK l own cc R ret M) {K : zT → Prop} (hK : ∀ t, K t → zZ p l e R s m args below meth c nL D α A P t) {pc nx tg : Nat} {iv : Int32} {σ : zS} {lv : List (Option zV)} {st : List zV}  (hi : zIok cc (pc, .ishr, nx, tg, iv) = true) (h : zex M P pc (.ishr) nx tg iv σ lv st K) : zZ p l e R s m args below meth c nL D α A P (σ, pc, lv, st) := by
  obtain ⟨hx, hb, hml, hown, hts, hKK, hnw, hA, hlk, hret⟩ := X
  simp only [zIok, Bool.and_eq_true, decide_eq_true_eq] at hi
  obtain ⟨hd, hle, hn⟩ := hi
  obtain rfl : nx = pc + 1 := by omega
  rw [Nat.add_sub_cancel_left] at hd
  intro H locs ls hP hD hS hl
  dsimp only [zex] at h
  split at h
  · rename_i y x r
    exact lv_ishr hx hb hd (hK _ h H locs ls hP hD hS hl)
  · exact h.elim
theorem zs_iushr (X : zX p s m args meth c cc own nL D α A ret) (O : zOK l own cc R ret M) {K : zT → Prop} (hK : ∀ t, K t → zZ p l e R s m args below meth c nL D α A P t) {pc nx tg : Nat} {iv : Int32} {σ : zS} {lv : List (Option zV)} {st : List zV}  (hi : zIok cc (pc, .iushr, nx, tg, iv) = true) (h : zex M P pc (.iushr) nx tg iv σ lv st K) : zZ p l e R s m args below meth c nL D α A P (σ, pc, lv, st) := by
  obtain ⟨hx, hb, hml, hown, hts, hKK, hnw, hA, hlk, hret⟩ := X
  simp only [zIok, Bool.and_eq_true, decide_eq_true_eq] at hi
  obtain ⟨hd, hle, hn⟩ := hi
  obtain rfl : nx = pc + 1 := by omega
  rw [Nat.add_sub_cancel_left] at hd
  intro H locs ls hP hD hS hl
  dsimp only [zex] at h
  split at h
  · rename_i y x r
    exact lv_iushr hx hb hd rfl (hK _ h H locs ls hP hD hS hl)
  · exact h.elim
theorem zs_ineg (X : zX p s m args meth c cc own nL D α A ret) (O : zOK l own cc R ret M) {K : zT → Prop} (hK : ∀ t, K t → zZ p l e R s m args below meth c nL D α A P t) {pc nx tg : Nat} {iv : Int32} {σ : zS} {lv : List (Option zV)} {st : List zV}  (hi : zIok cc (pc, .ineg, nx, tg, iv) = true) (h : zex M P pc (.ineg) nx tg iv σ lv st K) : zZ p l e R s m args below meth c nL D α A P (σ, pc, lv, st) := by
  obtain ⟨hx, hb, hml, hown, hts, hKK, hnw, hA, hlk, hret⟩ := X
  simp only [zIok, Bool.and_eq_true, decide_eq_true_eq] at hi
  obtain ⟨hd, hle, hn⟩ := hi
  obtain rfl : nx = pc + 1 := by omega
  rw [Nat.add_sub_cancel_left] at hd
  intro H locs ls hP hD hS hl
  dsimp only [zex] at h
  split at h
  · rename_i x r
    exact lv_ineg hx hb hd (hK _ h H locs ls hP hD hS hl)
  · exact h.elim
theorem zs_dup (X : zX p s m args meth c cc own nL D α A ret) (O : zOK l own cc R ret M) {K : zT → Prop} (hK : ∀ t, K t → zZ p l e R s m args below meth c nL D α A P t) {pc nx tg : Nat} {iv : Int32} {σ : zS} {lv : List (Option zV)} {st : List zV}  (hi : zIok cc (pc, .dup, nx, tg, iv) = true) (h : zex M P pc (.dup) nx tg iv σ lv st K) : zZ p l e R s m args below meth c nL D α A P (σ, pc, lv, st) := by
  obtain ⟨hx, hb, hml, hown, hts, hKK, hnw, hA, hlk, hret⟩ := X
  simp only [zIok, Bool.and_eq_true, decide_eq_true_eq] at hi
  obtain ⟨hd, hle, hn⟩ := hi
  obtain rfl : nx = pc + 1 := by omega
  rw [Nat.add_sub_cancel_left] at hd
  intro H locs ls hP hD hS hl
  dsimp only [zex] at h
  split at h
  · rename_i v r
    exact lv_dup hx hb hd (zv_cat α v) (hK _ h H locs ls hP hD hS hl)
  · exact h.elim
theorem zs_dup2 (X : zX p s m args meth c cc own nL D α A ret) (O : zOK l own cc R ret M) {K : zT → Prop} (hK : ∀ t, K t → zZ p l e R s m args below meth c nL D α A P t) {pc nx tg : Nat} {iv : Int32} {σ : zS} {lv : List (Option zV)} {st : List zV}  (hi : zIok cc (pc, .dup2, nx, tg, iv) = true) (h : zex M P pc (.dup2) nx tg iv σ lv st K) : zZ p l e R s m args below meth c nL D α A P (σ, pc, lv, st) := by
  obtain ⟨hx, hb, hml, hown, hts, hKK, hnw, hA, hlk, hret⟩ := X
  simp only [zIok, Bool.and_eq_true, decide_eq_true_eq] at hi
  obtain ⟨hd, hle, hn⟩ := hi
  obtain rfl : nx = pc + 1 := by omega
  rw [Nat.add_sub_cancel_left] at hd
  intro H locs ls hP hD hS hl
  dsimp only [zex] at h
  split at h
  · rename_i v y r
    exact lv_dup2_11 hx hb hd (zv_cat α v) (zv_cat α y) (hK _ h H locs ls hP hD hS hl)
  · exact h.elim
theorem zs_goto (X : zX p s m args meth c cc own nL D α A ret) (O : zOK l own cc R ret M) {K : zT → Prop} (hK : ∀ t, K t → zZ p l e R s m args below meth c nL D α A P t) {pc nx tg : Nat} {iv : Int32} {σ : zS} {lv : List (Option zV)} {st : List zV} {z : Int} (hi : zIok cc (pc, .goto z, nx, tg, iv) = true) (h : zex M P pc (.goto z) nx tg iv σ lv st K) : zZ p l e R s m args below meth c nL D α A P (σ, pc, lv, st) := by
  obtain ⟨hx, hb, hml, hown, hts, hKK, hnw, hA, hlk, hret⟩ := X
  simp only [zIok, Bool.and_eq_true, decide_eq_true_eq] at hi
  obtain ⟨hd, hle, hv, hn⟩ := hi
  obtain rfl : nx = pc + 3 := by omega
  rw [Nat.add_sub_cancel_left] at hd
  intro H locs ls hP hD hS hl
  dsimp only [zex] at h
  exact lv_goto hx hb hd hv (hK _ h H locs ls hP hD hS hl)
theorem zs_ifc (X : zX p s m args meth c cc own nL D α A ret) (O : zOK l own cc R ret M) {K : zT → Prop} (hK : ∀ t, K t → zZ p l e R s m args below meth c nL D α A P t) {pc nx tg : Nat} {iv : Int32} {σ : zS} {lv : List (Option zV)} {st : List zV} {q : Jvm.ClassFile.Cond} {z : Int} (hi : zIok cc (pc, .ifCond q z, nx, tg, iv) = true) (h : zex M P pc (.ifCond q z) nx tg iv σ lv st K) : zZ p l e R s m args below meth c nL D α A P (σ, pc, lv, st) := by
  obtain ⟨hx, hb, hml, hown, hts, hKK, hnw, hA, hlk, hret⟩ := X
  simp only [zIok, Bool.and_eq_true, decide_eq_true_eq] at hi
  obtain ⟨hd, hle, hv, hn⟩ := hi
  obtain rfl : nx = pc + 3 := by omega
  rw [Nat.add_sub_cancel_left] at hd
  intro H locs ls hP hD hS hl
  dsimp only [zex] at h
  split at h
  · cases q <;> dsimp only [zcd] at h
    case eq => exact lv_if_eq hx hb hd hv (fun q => hK _ (h.1 q) H locs ls hP hD hS hl) (fun q => hK _ (h.2 q) H locs ls hP hD hS hl)
    case ne => exact lv_if_ne hx hb hd hv (fun q => hK _ (h.1 q) H locs ls hP hD hS hl) (fun q => hK _ (h.2 q) H locs ls hP hD hS hl)
    case lt => exact lv_if_lt hx hb hd hv (fun q => hK _ (h.1 q) H locs ls hP hD hS hl) (fun q => hK _ (h.2 q) H locs ls hP hD hS hl)
    case ge => exact lv_if_ge hx hb hd hv (fun q => hK _ (h.1 q) H locs ls hP hD hS hl) (fun q => hK _ (h.2 q) H locs ls hP hD hS hl)
    case gt => exact lv_if_gt hx hb hd hv (fun q => hK _ (h.1 q) H locs ls hP hD hS hl) (fun q => hK _ (h.2 q) H locs ls hP hD hS hl)
    case le => exact lv_if_le hx hb hd hv (fun q => hK _ (h.1 q) H locs ls hP hD hS hl) (fun q => hK _ (h.2 q) H locs ls hP hD hS hl)
  · exact h.elim
theorem zs_icmp (X : zX p s m args meth c cc own nL D α A ret) (O : zOK l own cc R ret M) {K : zT → Prop} (hK : ∀ t, K t → zZ p l e R s m args below meth c nL D α A P t) {pc nx tg : Nat} {iv : Int32} {σ : zS} {lv : List (Option zV)} {st : List zV} {q : Jvm.ClassFile.Cond} {z : Int} (hi : zIok cc (pc, .if_icmp q z, nx, tg, iv) = true) (h : zex M P pc (.if_icmp q z) nx tg iv σ lv st K) : zZ p l e R s m args below meth c nL D α A P (σ, pc, lv, st) := by
  obtain ⟨hx, hb, hml, hown, hts, hKK, hnw, hA, hlk, hret⟩ := X
  simp only [zIok, Bool.and_eq_true, decide_eq_true_eq] at hi
  obtain ⟨hd, hle, hv, hn⟩ := hi
  obtain rfl : nx = pc + 3 := by omega
  rw [Nat.add_sub_cancel_left] at hd
  intro H locs ls hP hD hS hl
  dsimp only [zex] at h
  split at h
  · cases q <;> dsimp only [zcd] at h
    case eq => exact lv_icmp_eq hx hb hd hv (fun q => hK _ (h.1 q) H locs ls hP hD hS hl) (fun q => hK _ (h.2 q) H locs ls hP hD hS hl)
    case ne => exact lv_icmp_ne hx hb hd hv (fun q => hK _ (h.1 q) H locs ls hP hD hS hl) (fun q => hK _ (h.2 q) H locs ls hP hD hS hl)
    case lt => exact lv_icmp_lt hx hb hd hv (fun q => hK _ (h.1 q) H locs ls hP hD hS hl) (fun q => hK _ (h.2 q) H locs ls hP hD hS hl)
    case ge => exact lv_icmp_ge hx hb hd hv (fun q => hK _ (h.1 q) H locs ls hP hD hS hl) (fun q => hK _ (h.2 q) H locs ls hP hD hS hl)
    case gt => exact lv_icmp_gt hx hb hd hv (fun q => hK _ (h.1 q) H locs ls hP hD hS hl) (fun q => hK _ (h.2 q) H locs ls hP hD hS hl)
    case le => exact lv_icmp_le hx hb hd hv (fun q => hK _ (h.1 q) H locs ls hP hD hS hl) (fun q => hK _ (h.2 q) H locs ls hP hD hS hl)
  · exact h.elim
theorem zs_getfield (X : zX p s m args meth c cc own nL D α A ret) (O : zOK l own cc R ret M) {K : zT → Prop} (hK : ∀ t, K t → zZ p l e R s m args below meth c nL D α A P t) {pc nx tg : Nat} {iv : Int32} {σ : zS} {lv : List (Option zV)} {st : List zV} {k : Nat} (hi : zIok cc (pc, .getfield k, nx, tg, iv) = true) (h : zex M P pc (.getfield k) nx tg iv σ lv st K) : zZ p l e R s m args below meth c nL D α A P (σ, pc, lv, st) := by
  obtain ⟨hx, hb, hml, hown, hts, hKK, hnw, hA, hlk, hret⟩ := X
  simp only [zIok, Bool.and_eq_true, decide_eq_true_eq] at hi
  obtain ⟨hd, hle, hn⟩ := hi
  obtain rfl : nx = pc + 3 := by omega
  rw [Nat.add_sub_cancel_left] at hd
  intro H locs ls hP hD hS hl
  dsimp only [zex] at h
  split at h
  · rename_i k' r q he
    split at h
    · rename_i o hs
      obtain ⟨hb1, h⟩ := zcond h
      have e1 := Nat.eq_of_beq_eq_true hb1
      split at h
      · rename_i v hv
        have hf := O.2.1 _ (zq_f_mem _ he)
        unfold zFok at hf
        split at hf
        · rename_i rr hrr
          simp only [Bool.and_eq_true, decide_eq_true_eq] at hf
          obtain ⟨hj, hlnk, -⟩ := hf
          obtain ⟨q0, hq0⟩ := zc_get (α := α) 0 hs (x := (α.1 k', .inr (o.1, o.2.map (zv α)))) rfl
          have hrr' : vwCl[o.1]? = some rr := by rw [e1]; exact hrr
          refine va_get (D := D) (C := rr.1) (T := rr.2.1) (N := rr.2.2) (ref := (rr.2.1 q.2.1).1) hx hb hts (zcls _ _ hrr).1 hown hKK hP q0 hq0 hrr' q.2.1 hj (hts _ hlnk) (fun _ h9 => h9) (v := zv α v) (by rw [List.getElem?_map, hv]; rfl) hd (hK _ h H locs ls hP hD hS hl)
        · cases hf
      · exact h.elim
    · exact h.elim
  · exact h.elim
theorem zs_putfield (X : zX p s m args meth c cc own nL D α A ret) (O : zOK l own cc R ret M) {K : zT → Prop} (hK : ∀ t, K t → zZ p l e R s m args below meth c nL D α A P t) {pc nx tg : Nat} {iv : Int32} {σ : zS} {lv : List (Option zV)} {st : List zV} {k : Nat} (hi : zIok cc (pc, .putfield k, nx, tg, iv) = true) (h : zex M P pc (.putfield k) nx tg iv σ lv st K) : zZ p l e R s m args below meth c nL D α A P (σ, pc, lv, st) := by
  obtain ⟨hx, hb, hml, hown, hts, hKK, hnw, hA, hlk, hret⟩ := X
  simp only [zIok, Bool.and_eq_true, decide_eq_true_eq] at hi
  obtain ⟨hd, hle, hn⟩ := hi
  obtain rfl : nx = pc + 3 := by omega
  rw [Nat.add_sub_cancel_left] at hd
  intro H locs ls hP hD hS hl
  dsimp only [zex] at h
  split at h
  · rename_i x k' r q he
    split at h
    · rename_i o hs
      obtain ⟨hb1, h⟩ := zcond h
      have e1 := Nat.eq_of_beq_eq_true hb1
      split at h
      · rename_i v0 hv
        have hf := O.2.1 _ (zq_f_mem _ he)
        unfold zFok at hf
        split at hf
        · rename_i rr hrr
          simp only [Bool.and_eq_true, decide_eq_true_eq] at hf
          obtain ⟨hj, hlnk, hkd⟩ := hf
          have hll : q.2.1 < o.2.length := (List.getElem?_eq_some_iff.mp hv).1
          obtain ⟨q0, hq0, hq1⟩ := zc_set (α := α) (c' := .inl (o.1, o.2.set q.2.1 (.inl x))) (x := (α.1 k', .inr (o.1, o.2.map (zv α)))) (x' := (α.1 k', .inr (o.1, (o.2.map (zv α)).set q.2.1 (.int x)))) 0 hs rfl (by
            show [(_, _)] = [(_, _)]
            rw [List.map_set]
            rfl)
          have hrr' : vwCl[o.1]? = some rr := by rw [e1]; exact hrr
          obtain ⟨hin, ⟨ty0, hty⟩, hnm⟩ := zcls _ _ hrr
          have main : ∀ (ty : FieldType), (rr.2.1 q.2.1).2.2.2 = false → parseFieldDescriptor (rr.2.1 q.2.1).2.2.1 = some ty → narrow ty (.int x) = .int x → fits ty (.int x) = true → K (σ.set k' (.inl (o.1, o.2.set q.2.1 (.inl x))), pc + 3, lv, r) → W p l e R s m args below meth c H locs 0 0 (MQ below (zQc D α A P) args s 0 0 A) (F0 m pc ls ((Sum.inl x :: Sum.inr (Sum.inl k') :: r : List zV).map (zv α))) := by
            intro ty f1 f2 f3 f4 h
            refine va_put (D := D) (v := .int x) (ty := ty) (C := rr.1) (T := rr.2.1) (N := rr.2.2) (ref := (rr.2.1 q.2.1).1) hx hb hts hin ty0 hty hnm hown hKK hP hD hS q0 hq0 hrr' q.2.1 hj (hts _ hlnk) (fun _ h9 => h9) f1 f2 f3 f4 (by rw [List.length_map]; exact hll) hd (fun H1 locs1 hP1 hD1 hS1 => ?_)
            rw [← hq1] at hP1 hD1
            exact hK _ h H1 locs1 ls hP1 hD1 hS1 hl
          unfold zpt at h
          split at h
          · rename_i hkd1
            rw [hkd1] at hkd
            simp only [Nat.one_ne_zero, if_false, if_true, Bool.and_eq_true, decide_eq_true_eq, Bool.not_eq_true'] at hkd
            exact main .int hkd.1 (by rw [hkd.2]; decide) rfl rfl h
          · rename_i hkd1
            rw [hkd1] at hkd
            simp only [Nat.reduceEqDiff, if_false, Bool.and_eq_true, decide_eq_true_eq, Bool.not_eq_true'] at hkd
            refine main .boolean hkd.1 (by rw [hkd.2]; decide) ?_ ?_ h.2
            · rcases h.1 with e | e <;> rw [e] <;> decide
            · rcases h.1 with e | e <;> rw [e] <;> decide
          · exact h.elim
        · cases hf
      · exact h.elim
    · exact h.elim
  · exact h.elim
theorem zs_iaload (X : zX p s m args meth c cc own nL D α A ret) (O : zOK l own cc R ret M) {K : zT → Prop} (hK : ∀ t, K t → zZ p l e R s m args below meth c nL D α A P t) {pc nx tg : Nat} {iv : Int32} {σ : zS} {lv : List (Option zV)} {st : List zV}  (hi : zIok cc (pc, .iaload, nx, tg, iv) = true) (h : zex M P pc (.iaload) nx tg iv σ lv st K) : zZ p l e R s m args below meth c nL D α A P (σ, pc, lv, st) := by
  obtain ⟨hx, hb, hml, hown, hts, hKK, hnw, hA, hlk, hret⟩ := X
  simp only [zIok, Bool.and_eq_true, decide_eq_true_eq] at hi
  obtain ⟨hd, hle, hn⟩ := hi
  obtain rfl : nx = pc + 1 := by omega
  rw [Nat.add_sub_cancel_left] at hd
  intro H locs ls hP hD hS hl
  dsimp only [zex] at h
  split at h
  · rename_i j k r
    split at h
    · rename_i a hs
      obtain ⟨q0, hq0⟩ := zc_get (α := α) 0 hs (x := (α.1 k, .inl (α.2.2.1, a.1, .inl a.2))) rfl
      exact va_iald hx hb hKK hP q0 0 hq0 rfl h.1 hd (hK _ h.2 H locs ls hP hD hS hl)
    · exact h.elim
  · rename_i j q r
    split at h
    · rename_i f hs
      obtain ⟨q0, hq0⟩ := zc_get (α := α) (q.2 + 1) hs (zce_row h.1.1)
      exact va_iald hx hb hKK hP q0 0 hq0 rfl h.1.2 hd (hK _ h.2 H locs ls hP hD hS hl)
    · exact h.elim
  · exact h.elim
theorem zs_iastore (X : zX p s m args meth c cc own nL D α A ret) (O : zOK l own cc R ret M) {K : zT → Prop} (hK : ∀ t, K t → zZ p l e R s m args below meth c nL D α A P t) {pc nx tg : Nat} {iv : Int32} {σ : zS} {lv : List (Option zV)} {st : List zV}  (hi : zIok cc (pc, .iastore, nx, tg, iv) = true) (h : zex M P pc (.iastore) nx tg iv σ lv st K) : zZ p l e R s m args below meth c nL D α A P (σ, pc, lv, st) := by
  obtain ⟨hx, hb, hml, hown, hts, hKK, hnw, hA, hlk, hret⟩ := X
  simp only [zIok, Bool.and_eq_true, decide_eq_true_eq] at hi
  obtain ⟨hd, hle, hn⟩ := hi
  obtain rfl : nx = pc + 1 := by omega
  rw [Nat.add_sub_cancel_left] at hd
  intro H locs ls hP hD hS hl
  dsimp only [zex] at h
  split at h
  · rename_i x j k r
    split at h
    · rename_i a hs
      obtain ⟨q0, hq0, hq1⟩ := zc_set (α := α) (c' := .inr (.inl (a.1, upd a.2 j.toNatClampNeg x))) (x := (α.1 k, .inl (α.2.2.1, a.1, .inl a.2))) (x' := (α.1 k, .inl (α.2.2.1, a.1, .inl (upd a.2 j.toNatClampNeg x)))) 0 hs rfl rfl
      refine va_iast hx hb hKK hP hD hS q0 0 hq0 rfl h.1 hd (fun H1 locs1 hP1 hD1 hS1 => ?_)
      rw [← hq1] at hP1 hD1
      exact hK _ h.2 H1 locs1 ls hP1 hD1 hS1 hl
    · exact h.elim
  · rename_i x j q r
    split at h
    · rename_i f hs
      obtain ⟨q0, hq0, hq1⟩ := zc_set (α := α) (q.2 + 1) hs (zce_row h.1.1) (zce_rowset (upd (f q.2) j.toNatClampNeg x) h.1.1)
      refine va_iast hx hb hKK hP hD hS q0 0 hq0 rfl h.1.2 hd (fun H1 locs1 hP1 hD1 hS1 => ?_)
      rw [← hq1] at hP1 hD1
      exact hK _ h.2 H1 locs1 ls hP1 hD1 hS1 hl
    · exact h.elim
  · exact h.elim
theorem zs_aaload (X : zX p s m args meth c cc own nL D α A ret) (O : zOK l own cc R ret M) {K : zT → Prop} (hK : ∀ t, K t → zZ p l e R s m args below meth c nL D α A P t) {pc nx tg : Nat} {iv : Int32} {σ : zS} {lv : List (Option zV)} {st : List zV}  (hi : zIok cc (pc, .aaload, nx, tg, iv) = true) (h : zex M P pc (.aaload) nx tg iv σ lv st K) : zZ p l e R s m args below meth c nL D α A P (σ, pc, lv, st) := by
  obtain ⟨hx, hb, hml, hown, hts, hKK, hnw, hA, hlk, hret⟩ := X
  simp only [zIok, Bool.and_eq_true, decide_eq_true_eq] at hi
  obtain ⟨hd, hle, hn⟩ := hi
  obtain rfl : nx = pc + 1 := by omega
  rw [Nat.add_sub_cancel_left] at hd
  intro H locs ls hP hD hS hl
  dsimp only [zex] at h
  split at h
  · rename_i j k r
    split at h
    · rename_i f hs
      obtain ⟨q0, hq0⟩ := zc_get (α := α) 0 hs (x := (α.1 k, .inl (α.2.2.2, 12, .inr (.inr (.inr (.inr (fun i => if i < 12 then some (α.2.1 k i) else none))))))) rfl
      have hlt : j.toNatClampNeg < 12 := Nat.not_le.mp fun q => h.1 (Or.inr q)
      have h9 := hK _ h.2 H locs ls hP hD hS hl
      exact W.aald (v := .ref (α.2.1 k j.toNatClampNeg)) (ty := .array .int) hx hb (hP q0 _ hq0) ((hKK.2 1 _ rfl).1 12 (fun i => va_rf (if i < 12 then some (α.2.1 k i) else none))) rfl (fun q => by cases q) (by show ¬ (j < 0 ∨ (arrV _ _ _).slots.size ≤ _); rw [arrV_size]; exact h.1) (by show (arrV _ _ _).slots[_]? = _; rw [arrV_read _ _ hlt]; show some (va_rf (if j.toNatClampNeg < 12 then some (α.2.1 k j.toNatClampNeg) else none)) = _; rw [if_pos hlt]; rfl) rfl rfl hd h9
    · exact h.elim
  · exact h.elim
theorem zs_arraylength (X : zX p s m args meth c cc own nL D α A ret) (O : zOK l own cc R ret M) {K : zT → Prop} (hK : ∀ t, K t → zZ p l e R s m args below meth c nL D α A P t) {pc nx tg : Nat} {iv : Int32} {σ : zS} {lv : List (Option zV)} {st : List zV}  (hi : zIok cc (pc, .arraylength, nx, tg, iv) = true) (h : zex M P pc (.arraylength) nx tg iv σ lv st K) : zZ p l e R s m args below meth c nL D α A P (σ, pc, lv, st) := by
  obtain ⟨hx, hb, hml, hown, hts, hKK, hnw, hA, hlk, hret⟩ := X
  simp only [zIok, Bool.and_eq_true, decide_eq_true_eq] at hi
  obtain ⟨hd, hle, hn⟩ := hi
  obtain rfl : nx = pc + 1 := by omega
  rw [Nat.add_sub_cancel_left] at hd
  intro H locs ls hP hD hS hl
  dsimp only [zex] at h
  split at h
  · rename_i k r
    split at h
    · rename_i a hs
      obtain ⟨q0, hq0⟩ := zc_get (α := α) 0 hs (x := (α.1 k, .inl (α.2.2.1, a.1, .inl a.2))) rfl
      exact va_alen hx hb hKK hP q0 0 hq0 rfl rfl hd (hK _ h H locs ls hP hD hS hl)
    · exact h.elim
  · rename_i q r
    split at h
    · rename_i f hs
      obtain ⟨q0, hq0⟩ := zc_get (α := α) (q.2 + 1) hs (zce_row h.1)
      exact va_alen hx hb hKK hP q0 0 hq0 rfl rfl hd (hK _ h.2 H locs ls hP hD hS hl)
    · exact h.elim
  · exact h.elim
theorem zs_ireturn (X : zX p s m args meth c cc own nL D α A ret) (O : zOK l own cc R ret M) {K : zT → Prop} (hK : ∀ t, K t → zZ p l e R s m args below meth c nL D α A P t) {pc nx tg : Nat} {iv : Int32} {σ : zS} {lv : List (Option zV)} {st : List zV}  (hi : zIok cc (pc, .ireturn, nx, tg, iv) = true) (h : zex M P pc (.ireturn) nx tg iv σ lv st K) : zZ p l e R s m args below meth c nL D α A P (σ, pc, lv, st) := by
  obtain ⟨hx, hb, hml, hown, hts, hKK, hnw, hA, hlk, hret⟩ := X
  simp only [zIok, Bool.and_eq_true, decide_eq_true_eq] at hi
  obtain ⟨hd, hle, hn⟩ := hi
  obtain rfl : nx = pc + 1 := by omega
  rw [Nat.add_sub_cancel_left] at hd
  intro H locs ls hP hD hS hl
  dsimp only [zex] at h
  split at h
  · rename_i x
    have fin : ∀ t : State, t.heap = H → P (some (.inl x)) σ → zQc D α A P args s (.returned (some (.int x))) t := fun t ht hp => ⟨⟨some (.inl x), σ, rfl, hp, by rw [ht]; exact hP, hD⟩, hS.F ht⟩
    have hrt := O.2.2.2.2.2
    unfold zpt at h
    split at h
    · rename_i ek
      rw [hrt, ek] at hret
      exact W.iret hx hb hret (fun t ht _ => fin t ht h) hS.2.2 hd hlk
    · rename_i ek
      rw [hrt, ek] at hret
      exact W.zret hx hb hret (by rcases h.1 with q | q <;> rw [q] <;> decide) (fun t ht _ => fin t ht h.2) hS.2.2 hd hlk
    · exact h.elim
  · exact h.elim
theorem zs_return (X : zX p s m args meth c cc own nL D α A ret) (O : zOK l own cc R ret M) {K : zT → Prop} (hK : ∀ t, K t → zZ p l e R s m args below meth c nL D α A P t) {pc nx tg : Nat} {iv : Int32} {σ : zS} {lv : List (Option zV)} {st : List zV}  (hi : zIok cc (pc, .return_, nx, tg, iv) = true) (h : zex M P pc (.return_) nx tg iv σ lv st K) : zZ p l e R s m args below meth c nL D α A P (σ, pc, lv, st) := by
  obtain ⟨hx, hb, hml, hown, hts, hKK, hnw, hA, hlk, hret⟩ := X
  simp only [zIok, Bool.and_eq_true, decide_eq_true_eq] at hi
  obtain ⟨hd, hle, hn⟩ := hi
  obtain rfl : nx = pc + 1 := by omega
  rw [Nat.add_sub_cancel_left] at hd
  intro H locs ls hP hD hS hl
  dsimp only [zex] at h
  split at h
  · rename_i ek
    rw [O.2.2.2.2.2, ek] at hret
    exact W.vret hx hb hret (fun t ht _ => ⟨⟨none, σ, rfl, h, by rw [ht]; exact hP, hD⟩, hS.F ht⟩) hS.2.2 hd hlk
  · exact h.elim
end ZST
end
section
/-! CALLS, the copy of a row, the switch; and the whole walk. -/
theorem zAll_good {w : Cond} (h : w ∈ zAll) : goodWord w = true := (List.mem_filter.mp h).2
theorem zGood {cw : Cond} (h : cw ∈ zAll) : GoodIn zAll (cw :: zAll) := fun w hw => by
  rcases List.mem_cons.mp hw with rfl | hw
  · exact ⟨h, good_of_word (zAll_good h)⟩
  · exact ⟨hw, good_of_word (zAll_good hw)⟩
theorem zNw_warm {s U : State} (hW : s.WarmedH U.vm) (h : ∀ w ∈ zNW, va_Nw w s) : ∀ w ∈ zNW, va_Nw w U := by
  intro w hw
  have h1 := h w hw
  unfold zNW at hw
  simp only [List.mem_cons, List.not_mem_nil, or_false] at hw
  rcases hw with rfl | rfl | rfl | rfl | rfl | rfl <;> exact va_Nw.warmM hW h1
theorem zNw_same {u U : State} (hv : u.vm = U.vm) (h : ∀ w ∈ zNW, va_Nw w u) : ∀ w ∈ zNW, va_Nw w U := by
  intro w hw
  have h1 := h w hw
  unfold zNW at hw
  simp only [List.mem_cons, List.not_mem_nil, or_false] at hw
  rcases hw with rfl | rfl | rfl | rfl | rfl | rfl <;> exact va_Nw.same rfl hv h1
theorem zBlind {D : va_G} {α : zA} {sz : Nat} {σ : zS} {as : List Value} : FrameBlind (va_Pc as (fun U => U.heap.size = sz ∧ zU D α σ U)) := by
  intro a U g mk q
  obtain ⟨q0, q1, qP, qK, qD, qN⟩ := q
  exact ⟨q0, q1, qP, va_K.moved (u := U) (U := U.calling g mk a) (Vm.Alike.refl U.vm) qK, qD, zNw_same (u := U) (U := U.calling g mk a) rfl qN⟩
section ZCA
variable {p : Program} {l : Launch} {e : Env} {R : Room} {s : State} {m : MethodId} {args : Array Value} {below : List Frame} {meth : Method} {c : Code} {H : Heap} {locs : List Loc} {Q : State → Prop}
variable {pc : Nat} {ls : Array Slot} {rest st0 : List Value} {a : Array Value} {A0 A1 : Nat → Prop} {H0 : Heap} {free : Addr → Prop}
theorem z_call {D : va_G} {α : zA} {P : zP} (hr : va_Run p l e R s m args below meth c H locs 0 0 0 0 (F0 m pc ls st0) rest (zQc D α A1 P a) free) (hS : va_S A0 H0 H locs) (hA : ∀ q, q < H.size → A1 q → A0 q) (hf : ∀ q, free q → A0 q)
    (kk : ∀ (r : Option zV) (σ : zS) (H1 : Heap) (locs1 : List Loc), P r σ → va_P D vwCl (zc α σ) H1 → va_D A1 (zc α σ) → va_S A0 H0 H1 locs1 → W p l e R s m args below meth c H1 locs1 0 0 Q (F0 m (pc + 3) ls ((r.map (zv α)).toList ++ rest))) : W p l e R s m args below meth c H locs 0 0 Q (F0 m pc ls st0) := by
  intro T hT X
  obtain ⟨v, st₀, t, T', L, h0, X', hL, e1, e2, ⟨⟨r, σ, hv, hp, hP1, hD1⟩, hz, hk⟩, st⟩ := hr T hT X
  cases hv
  rw [h0] at hz hk
  obtain ⟨t2, a1, b1⟩ := kk r σ T'.heap (locs ++ L) hp (by rw [e1]; exact hP1) hD1
    ⟨Nat.le_trans hS.1 (by rw [e1]; exact hz), fun q h1 h2 => by rw [e1, hk q (Nat.lt_of_lt_of_le h1 hS.1) (fun z => h2 (hA q (Nat.lt_of_lt_of_le h1 hS.1) z))]; exact hS.2.1 q h1 h2, fun q hq => by
      rcases List.mem_append.mp hq with h | h
      · exact hS.2.2 q h
      · exact hf _ (hL q h)⟩ T' rfl X'
  exact ⟨t2, st t2 a1, b1⟩
end ZCA
theorem zRok_spec {R : Room} {mx : Nat} {rm : Room} (h : zRok R mx rm = true) : rm.cells = 0 ∧ rm.slots = 0 ∧ rm.frames + 1 ≤ R.frames ∧ 8 + (mx + 11) + rm.locals ≤ R.locals := by
  simp only [zRok, Bool.and_eq_true, decide_eq_true_eq] at h
  exact ⟨h.1, h.2.1, Nat.le_of_ble_eq_true h.2.2.1, Nat.le_of_ble_eq_true h.2.2.2⟩
theorem zYok_spec {y : MethodName} {cc : ByteArray} {mx : Nat} {ret : Option FieldType} {n : Nat} (h : zYok y cc mx ret n = true) : Cond.code y cc mx ret ∈ zAll ∧ Cond.initialized y.cls ∈ zAll ∧ y.cls ≠ "java/lang/invoke/MethodHandle" ∧ y.cls ≠ "java/lang/invoke/VarHandle" ∧ (parseMethodDescriptor y.desc).map (fun d => d.parameters.length) = some n := by
  simp only [zYok, Bool.and_eq_true, decide_eq_true_eq] at h
  exact h
theorem zFree {D : va_G} {α : zA} {A : Nat → Prop} {σ : zS} {s : State} {H : Heap} {locs : List Loc} (hD : va_D A (zc α σ)) (hS : va_S A s.heap H locs) (hA : ∀ q, s.heap.size ≤ q → A q) : ∀ q, va_A (zc α σ) H.size q → A q := by
  rintro q (⟨k, e, h⟩ | h)
  · exact hD.2 k (q, e) h
  · exact hA q (Nat.le_trans hS.1 h)
section ZST
variable {p : Program} {l : Launch} {e : Env} {R : Room} {s : State} {m : MethodId} {args : Array Value} {below : List Frame} {meth : Method} {c : Code}
variable {cc : ByteArray} {own : String} {nL : Nat} {D : va_G} {α : zA} {A : Nat → Prop} {ret : Option FieldType} {M : zM} {P : zP}
theorem zs_invokevirtual (X : zX p s m args meth c cc own nL D α A ret) (O : zOK l own cc R ret M) {K : zT → Prop} (hK : ∀ t, K t → zZ p l e R s m args below meth c nL D α A P t) {pc nx tg : Nat} {iv : Int32} {σ : zS} {lv : List (Option zV)} {st : List zV} {n : Nat} (hi : zIok cc (pc, .invokevirtual n, nx, tg, iv) = true) (h : zex M P pc (.invokevirtual n) nx tg iv σ lv st K) : zZ p l e R s m args below meth c nL D α A P (σ, pc, lv, st) := by
  obtain ⟨hx, hb, hml, hown, hts, hKK, hnw, hA, hlk, hret⟩ := X
  simp only [zIok, Bool.and_eq_true, decide_eq_true_eq] at hi
  obtain ⟨hd, hle, hn⟩ := hi
  obtain rfl : nx = pc + 3 := by omega
  rw [Nat.add_sub_cancel_left] at hd
  intro H locs ls hP hD hS hl
  dsimp only [zex] at h
  split at h
  · rename_i q he
    split at h
    · rename_i k as hrev
      split at h
      · rename_i o hs
        obtain ⟨hc1, h⟩ := zcond h
        simp only [Bool.and_eq_true] at hc1
        obtain ⟨hc1, hc2, hc3⟩ := hc1
        have e1 := Nat.eq_of_beq_eq_true hc1
        have e2 := Nat.le_of_ble_eq_true hc2
        have e3 := Nat.eq_of_beq_eq_true hc3
        obtain ⟨y, cy, mx, rt, rm, hM, hR, hY, hL⟩ := O.2.2.2.1 _ (zq_f_mem _ he)
        obtain ⟨hrc, hrs, hfr, hlo⟩ := zRok_spec hR
        obtain ⟨y1, y2, y3, y4, y5⟩ := zYok_spec hY
        obtain ⟨q0, hq0⟩ := zc_get (α := α) 0 hs (x := (α.1 k, .inr (o.1, o.2.map (zv α)))) rfl
        obtain ⟨rr, hrr, -⟩ := hP q0 _ hq0
        have hrr2 : vwCl[q.2.1]? = some rr := by rw [← e1]; exact hrr
        have hlt : q.2.1 < 100 := by
          have := (List.getElem?_eq_some_iff.mp hrr2).1
          have h6 : vwCl.length = 6 := rfl
          omega
        dsimp only at hL hM
        unfold zLk at hL
        rw [if_pos hlt, hrr2] at hL
        simp only [Bool.and_eq_true, decide_eq_true_eq] at hL
        obtain ⟨l1, l2, l3, l4⟩ := hL
        have hstk : st = as.reverse ++ .inr (.inl k) :: st.drop (q.1 + 1) := by
          have h1 := congrArg List.reverse hrev
          rw [List.reverse_reverse, List.reverse_cons] at h1
          have h2 := List.take_append_drop (q.1 + 1) st
          rw [h1] at h2
          rw [List.append_assoc] at h2
          exact h2.symm
        have hF := zFree (D := D) hD hS hA
        refine z_call (va_runV (C := y.cls) (As := as.map (zv α)) (b := α.1 k) (rest := (st.drop (q.1 + 1)).map (zv α)) ⟨hx, hb, hml, hown, hts⟩ (hM D α H.size σ _ _ h) (cwV q.1 hts ?_ rfl hrc hrs ⟨rfl, y3, y4, y5⟩ ⟨hfr, hlo⟩) ⟨zBlind, ?_, fun U hU hW => ⟨rfl, by rw [hU], by rw [hU]; exact hP, va_K.moved hW.alike hKK, hD.weaken (fun _ _ _ _ => trivial), zNw_warm hW hnw⟩⟩ rfl (by rw [List.length_map]; exact e3) hl.2.1 ?_ (lv_room (by rw [zv_sum]; exact e2)) hd ⟨Nat.zero_le _, Nat.zero_le _⟩) hS (fun q _ h => hF q h) hF (fun r σ' H1 locs1 hp hP1 hD1 hS1 => ?_)
        · intro w hw
          unfold wsV at hw
          rcases List.mem_append.mp hw with hw | hw
          · simp only [List.mem_cons, List.not_mem_nil, or_false] at hw
            rcases hw with rfl | rfl | rfl | rfl
            · exact ⟨l1, good_of_word (zAll_good l1)⟩
            · exact ⟨l2, good_of_word (zAll_good l2)⟩
            · exact ⟨l3, good_of_word (zAll_good l3)⟩
            · exact ⟨y2, good_of_word (zAll_good y2)⟩
          · exact zGood y1 w hw
        · have := va_recv hKK hP hrr hq0
          rw [l4] at this
          exact this
        · show st.map (zv α) = _
          conv => lhs; rw [hstk]
          rw [List.map_append, List.map_cons, List.map_reverse]
          rfl
        · have h9 := hK _ hp H1 locs1 ls hP1 (hD1.weaken (fun _ q _ h => hF q.1 h)) hS1 hl
          have e9 : (r.toList ++ st.drop (q.1 + 1)).map (zv α) = (r.map (zv α)).toList ++ (st.drop (q.1 + 1)).map (zv α) := by
            cases r <;> simp
          rw [← e9]
          exact h9
      · exact h.elim
    · exact h.elim
  · exact h.elim
theorem zs_invokestatic (X : zX p s m args meth c cc own nL D α A ret) (O : zOK l own cc R ret M) {K : zT → Prop} (hK : ∀ t, K t → zZ p l e R s m args below meth c nL D α A P t) {pc nx tg : Nat} {iv : Int32} {σ : zS} {lv : List (Option zV)} {st : List zV} {n : Nat} (hi : zIok cc (pc, .invokestatic n, nx, tg, iv) = true) (h : zex M P pc (.invokestatic n) nx tg iv σ lv st K) : zZ p l e R s m args below meth c nL D α A P (σ, pc, lv, st) := by
  obtain ⟨hx, hb, hml, hown, hts, hKK, hnw, hA, hlk, hret⟩ := X
  simp only [zIok, Bool.and_eq_true, decide_eq_true_eq] at hi
  obtain ⟨hd, hle, hn⟩ := hi
  obtain rfl : nx = pc + 3 := by omega
  rw [Nat.add_sub_cancel_left] at hd
  intro H locs ls hP hD hS hl
  dsimp only [zex] at h
  cases hcp : zq_in n M.2.2.2.2.1 with
  | true =>
    rw [hcp] at h
    simp only [cond_true] at h
    split at h
    · rename_i ct dp d sp sr r
      split at h
      · rename_i g f hg hf
        obtain ⟨hc1, ⟨hdl, hsl, hsp, hdp, hct⟩, hfin⟩ := zcond h
        clear h
        simp only [Bool.and_eq_true] at hc1
        have e2 := Nat.le_of_ble_eq_true hc1.1
        subst hsp; subst hdp; subst hct
        have hcy := O.2.2.2.2.1 _ (zq_in_mem _ hcp)
        simp only [zCpy, Bool.and_eq_true, decide_eq_true_eq] at hcy
        obtain ⟨c1, c2, c3, c4, c5, c6⟩ := hcy
        obtain ⟨q0, hq0⟩ := zc_get (α := α) (sr.2 + 1) hf (zce_row hsl)
        obtain ⟨q1, hq1, hq2⟩ := zc_set (α := α) (d.2 + 1) hg (zce_row hdl) (zce_rowset (va_cpy (f sr.2) (g d.2) 0 0 12) hdl)
        refine va_copyi (sp := 0) (dp := 0) (n := 12) (ty := .int) hx hb (by rw [hml]; exact hl.2.1.symm) hown (hts _ c1) (hts _ c2) (hts _ c3) (hts _ c4) hKK hP hD hS q0 q1 0 0 hq0 hq1 rfl rfl rfl (by decide) (by decide) (by decide) (by decide) (by decide) (fun _ _ => rfl) (Nat.le_of_ble_eq_true c5) ?_ hd (fun H1 locs1 hP1 hD1 hS1 => ?_)
        · rw [zv_sum]
          have := Nat.le_of_ble_eq_true c6
          omega
        · have z0 : (0 : Int32).toNatClampNeg = 0 := by decide
          have z12 : (12 : Int32).toNatClampNeg = 12 := by decide
          rw [z0, z12, ← hq2] at hP1 hD1
          exact hK _ hfin H1 locs1 ls hP1 hD1 hS1 hl
      · exact h.elim
    · exact h.elim
  | false =>
    rw [hcp] at h
    simp only [cond_false] at h
    split at h
    · rename_i q he
      obtain ⟨hc1, h⟩ := zcond h
      simp only [Bool.and_eq_true] at hc1
      obtain ⟨hc1, hc2, hc3⟩ := hc1
      have e1 := Nat.le_of_ble_eq_true hc1
      have e2 := Nat.le_of_ble_eq_true hc2
      have e3 := Nat.eq_of_beq_eq_true hc3
      obtain ⟨y, cy, mx, rt, rm, hM, hR, hY, hL⟩ := O.2.2.2.1 _ (zq_f_mem _ he)
      obtain ⟨hrc, hrs, hfr, hlo⟩ := zRok_spec hR
      obtain ⟨y1, y2, y3, y4, y5⟩ := zYok_spec hY
      dsimp only at hL hM
      unfold zLk at hL
      rw [if_neg (by omega)] at hL
      have hF := zFree (D := D) hD hS hA
      have hpre : PreS s H (va_Pc ((st.take q.1).reverse.map (zv α)) (fun U => U.heap.size = H.size ∧ zU D α σ U)) ((st.take q.1).reverse.map (zv α)) := ⟨zBlind, fun U hU hW => ⟨rfl, by rw [hU], by rw [hU]; exact hP, va_K.moved hW.alike hKK, hD.weaken (fun _ _ _ _ => trivial), zNw_warm hW hnw⟩⟩
      have hstk : st.map (zv α) = ((st.take q.1).reverse.map (zv α)).reverse ++ (st.drop q.1).map (zv α) := by
        rw [← List.map_reverse, List.reverse_reverse, ← List.map_append, List.take_append_drop]
      have hlen : ((st.take q.1).reverse.map (zv α)).length = q.1 := by rw [List.length_map, List.length_reverse]; exact e3
      have hgood : GoodIn zAll (Cond.code y cy mx rt :: zAll) := zGood y1
      have fin : ∀ (r : Option zV) (σ' : zS) (H1 : Heap) (locs1 : List Loc), K (σ', pc + 3, lv, r.toList ++ st.drop q.1) → va_P D vwCl (zc α σ') H1 → va_D (va_A (zc α σ) H.size) (zc α σ') → va_S A s.heap H1 locs1 → W p l e R s m args below meth c H1 locs1 0 0 (MQ below (zQc D α A P) args s 0 0 A) (F0 m (pc + 3) ls ((r.map (zv α)).toList ++ (st.drop q.1).map (zv α))) := by
        intro r σ' H1 locs1 hp hP1 hD1 hS1
        have h9 := hK _ hp H1 locs1 ls hP1 (hD1.weaken (fun _ q _ h => hF q.1 h)) hS1 hl
        have e9 : (r.toList ++ st.drop q.1).map (zv α) = (r.map (zv α)).toList ++ (st.drop q.1).map (zv α) := by
          cases r <;> simp
        rw [← e9]
        exact h9
      by_cases h100 : q.2.1 = 100
      · rw [if_pos h100] at hL
        simp only [Bool.and_eq_true, decide_eq_true_eq] at hL
        exact z_call (va_runS (As := (st.take q.1).reverse.map (zv α)) (rest := (st.drop q.1).map (zv α)) ⟨hx, hb, hml, hown, hts⟩ (hM D α H.size σ _ _ h) ⟨callB_of q.1 hts hgood rfl hrc hrs (hts _ y2) (hts _ hL.1) ⟨y3, y4, y5⟩ ⟨hfr, hlo⟩, hts _ hL.2⟩ hpre rfl hlen hl.2.1 hstk (lv_room (by rw [zv_sum]; exact e2)) hd ⟨Nat.zero_le _, Nat.zero_le _⟩) hS (fun q _ h => hF q h) hF fin
      · rw [if_neg h100] at hL
        simp only [Bool.and_eq_true, decide_eq_true_eq] at hL
        exact z_call (va_runSN (As := (st.take q.1).reverse.map (zv α)) (rest := (st.drop q.1).map (zv α)) ⟨hx, hb, hml, hown, hts⟩ (hM D α H.size σ _ _ h) ⟨va_cnB q.1 hts hgood rfl hrc hrs (hnw _ hL.1) (hts _ y2) ⟨y3, y4, y5⟩ ⟨hfr, hlo⟩, hts _ hL.2, trivial⟩ hpre rfl hlen hl.2.1 hstk (lv_room (by rw [zv_sum]; exact e2)) hd ⟨Nat.zero_le _, Nat.zero_le _⟩) hS (fun q _ h => hF q h) hF fin
    · exact h.elim
theorem zs_tableswitch (X : zX p s m args meth c cc own nL D α A ret) {K : zT → Prop} (hK : ∀ t, K t → zZ p l e R s m args below meth c nL D α A P t) {pc nx tg : Nat} {iv : Int32} {σ : zS} {lv : List (Option zV)} {st : List zV} {d lo hh : Int} {offs : Array Int} (hi : zIok cc (pc, .tableswitch d lo hh offs, nx, tg, iv) = true) (h : zex M P pc (.tableswitch d lo hh offs) nx tg iv σ lv st K) : zZ p l e R s m args below meth c nL D α A P (σ, pc, lv, st) := by
  obtain ⟨hx, hb, hml, hown, hts, hKK, hnw, hA, hlk, hret⟩ := X
  simp only [zIok, Bool.and_eq_true, decide_eq_true_eq] at hi
  obtain ⟨hd, hle, hn1, hn3, hn2⟩ := hi
  intro H locs ls hP hD hS hl
  dsimp only [zex] at h
  split at h
  · rename_i x r
    by_cases hr : x.toInt < lo ∨ hh < x.toInt
    · exact lv_tableOut hx hb hd hr (Int.toNat_of_nonneg hn1).symm (hK _ (h.1 hr) H locs ls hP hD hS hl)
    · have h1 : ¬ x.toInt < lo := fun q => hr (Or.inl q)
      have h2 : ¬ hh < x.toInt := fun q => hr (Or.inr q)
      have h3 : (x.toInt - lo).toNat < offs.size := by omega
      have h4 : offs[(x.toInt - lo).toNat]? = some offs[(x.toInt - lo).toNat] := Array.getElem?_eq_getElem h3
      have h5 := of_decide_eq_true (Array.all_eq_true.mp hn2 _ h3)
      exact lv_tableIn hx hb hd h1 h2 h4 (Int.toNat_of_nonneg h5).symm (hK _ (h.2 _ h1 h2 h4) H locs ls hP hD hS hl)
  · exact h.elim
theorem z_step (X : zX p s m args meth c cc own nL D α A ret) (O : zOK l own cc R ret M) {K : zT → Prop} (hK : ∀ t, K t → zZ p l e R s m args below meth c nL D α A P t) {t : zT} (h : zst M P t K) : zZ p l e R s m args below meth c nL D α A P t := by
  obtain ⟨σ, pc, lv, st⟩ := t
  unfold zst at h
  dsimp only at h
  split at h
  · rename_i q he
    obtain ⟨i, nx, tg, iv⟩ := q
    have hi : zIok cc (pc, i, nx, tg, iv) = true := O.1 _ (zq_f_mem _ he)
    dsimp only at h
    cases i
    case iload_n => exact zs_iload_n X O hK hi h
    case iload => exact zs_iload X O hK hi h
    case aload_n => exact zs_aload_n X O hK hi h
    case iconst => exact zs_iconst X O hK hi h
    case bipush => exact zs_bipush X O hK hi h
    case sipush => exact zs_sipush X O hK hi h
    case ldc => exact zs_ldc X O hK hi h
    case ldc_w => exact zs_ldc_w X O hK hi h
    case istore_n => exact zs_istore_n X O hK hi h
    case istore => exact zs_istore X O hK hi h
    case iinc => exact zs_iinc X O hK hi h
    case iadd => exact zs_iadd X O hK hi h
    case isub => exact zs_isub X O hK hi h
    case imul => exact zs_imul X O hK hi h
    case iand => exact zs_iand X O hK hi h
    case ior => exact zs_ior X O hK hi h
    case ixor => exact zs_ixor X O hK hi h
    case ishl => exact zs_ishl X O hK hi h
    case ishr => exact zs_ishr X O hK hi h
    case iushr => exact zs_iushr X O hK hi h
    case ineg => exact zs_ineg X O hK hi h
    case dup => exact zs_dup X O hK hi h
    case dup2 => exact zs_dup2 X O hK hi h
    case goto => exact zs_goto X O hK hi h
    case ifCond => exact zs_ifc X O hK hi h
    case if_icmp => exact zs_icmp X O hK hi h
    case getfield => exact zs_getfield X O hK hi h
    case putfield => exact zs_putfield X O hK hi h
    case iaload => exact zs_iaload X O hK hi h
    case iastore => exact zs_iastore X O hK hi h
    case aaload => exact zs_aaload X O hK hi h
    case arraylength => exact zs_arraylength X O hK hi h
    case ireturn => exact zs_ireturn X O hK hi h
    case return_ => exact zs_return X O hK hi h
    case tableswitch => exact zs_tableswitch X hK hi h
    case invokevirtual => exact zs_invokevirtual X O hK hi h
    case invokestatic => exact zs_invokestatic X O hK hi h
    all_goals exact (show False from h).elim
  · exact h.elim
theorem z_run (X : zX p s m args meth c cc own nL D α A ret) (O : zOK l own cc R ret M) {K : zT → Prop} (hK : ∀ t, K t → zZ p l e R s m args below meth c nL D α A P t) (S : List Nat) : ∀ (n : Nat) (t : zT), zwp M P S n t K → zZ p l e R s m args below meth c nL D α A P t
  | 0, _, h => h.elim
  | n + 1, t, h => z_step X O (fun u hu => by
      cases e : zq_in u.2.1 S with
      | true => rw [e] at hu; exact hK u hu
      | false => rw [e] at hu; exact z_run X O hK S n u hu) h
end ZST
theorem zlv_args (α : zA) : ∀ (as : List zV) (k n : Nat), zlv α k (as.map some ++ List.replicate n none) = lv_args k (as.map (zv α))
  | [], k, n => by
    induction n generalizing k with
    | zero => rfl
    | succ n ih =>
      show zlv α (k + 1) _ = _
      have := ih (k + 1)
      simpa [lv_args] using this
  | v :: r, k, n => by
    show (k, zv α v) :: zlv α (k + 1) (r.map some ++ List.replicate n none) = _
    rw [zlv_args α r (k + 1) n]
    show _ = (k, zv α v) :: lv_args (if (zv α v).category = 2 then k + 2 else k + 1) (r.map (zv α))
    rw [if_neg (by rw [zv_cat]; decide)]
theorem lg_sl_zv (α : zA) (as : List zV) : (lg_sl (as.map (zv α))).length = as.length := by
  induction as with
  | nil => rfl
  | cons a l ih =>
    show ((if (zv α a).category = 2 then _ else _) ++ lg_sl (l.map (zv α))).length = _
    rw [if_neg (by rw [zv_cat]; decide), List.length_append, ih]
    simp [Nat.add_comm]
/-- A CONTRACT out of a walk of the generator -/
theorem zMet_of {l : Launch} {y : MethodName} {cc : ByteArray} {mx : Nat} {ret : Option FieldType} {rm : Room} {C : zK} {M : zM} (hy : plainName y.cls = true) (hrm : rm.cells = 0 ∧ rm.slots = 0) (O : zOK l y.cls cc rm ret M)
    (h : ∀ (as : List zV) (σ : zS) (P : zP), C as σ P → as.length ≤ mx ∧ ∀ Z : zT → Prop, zcl M P Z → Z (σ, 0, as.map some ++ List.replicate (mx - as.length) none, [])) : zMet l y cc mx ret rm C := by
  intro D α sz σ as P hC
  obtain ⟨hlen, hZ⟩ := h as σ P hC
  refine Met.ofW (cc := cc) (maxL := mx) (ret := ret) hy rfl ?_
  intro p e s m args below meth c s₁ B hml hv
  obtain ⟨rfl, hsz, hP, hK, hD0, hN⟩ := hv
  have hts := atoms_spec (ws := .code y cc mx ret :: zAll) B.pre
  have hown : s.vm.findClass y.cls = some m.cls := findClass_of_methodNamed B.named
  subst hsz
  have hD := hD0.self (sz := s.heap.size)
  generalize hAe : va_A (zc α σ) s.heap.size = A at hD ⊢
  have hA : ∀ q : Nat, s.heap.size ≤ q → A q := fun q h => by rw [← hAe]; exact Or.inr h
  have hS : va_S A s.heap s.heap [] := va_S.rf
  have hl := lv_entry (as.map (zv α)) (n := mx) (by rw [lg_sl_zv]; exact hlen)
  rw [lg_entry_eq]
  generalize (lg_sl (as.map (zv α)) ++ List.replicate (mx - (lg_sl (as.map (zv α))).length) Slot.unset).toArray = ls at hl ⊢
  have X : zX p s m (as.map (zv α)).toArray meth c cc y.cls mx D α A ret := ⟨B.exec, B.bytes, hml, hown, fun w hw => hts w (List.mem_cons_of_mem _ hw), hK, hN, hA, B.notSynchronized, B.returns⟩
  have h9 := hZ (zZ p l e rm s m (as.map (zv α)).toArray below meth c mx D α A P) (fun S n t ht => z_run X O (fun _ q => q) S n t ht)
  exact h9 s.heap [] ls hP hD hS ⟨by simp; omega, by rw [zlv_args]; exact hl⟩
end
