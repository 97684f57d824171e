-- ===== PART A: goes FIRST, ahead of the names: the tables' words, and 'selects' of the private methods out of them =====
/-- a private method of a class that the tables say can be made, by its rows of tables_1 -/
def lw_okq (q : MethodName × Nat) : Prop := (q.1.cls ≠ "java/lang/invoke/MethodHandle" ∧ q.1.cls ≠ "java/lang/invoke/VarHandle") ∧ Cond.instantiable q.1.cls q.2 ∈ tables_1 ∧ Cond.privateMethod q.1 ∈ tables_1 ∧ Cond.instanceMethod q.1 ∈ tables_1
theorem lw_p0 : lw_okq (⟨"CutTreeKeeper", "pairError", "(II)I"⟩, 4) := ⟨⟨by decide +kernel, by decide +kernel⟩, List.mem_of_getElem? (i := 12) (by decide +kernel), List.mem_of_getElem? (i := 149) (by decide +kernel), List.mem_of_getElem? (i := 150) (by decide +kernel)⟩
theorem lw_p1 : lw_okq (⟨"CutTreeKeeper", "freshen", "()V"⟩, 4) := ⟨⟨by decide +kernel, by decide +kernel⟩, List.mem_of_getElem? (i := 12) (by decide +kernel), List.mem_of_getElem? (i := 223) (by decide +kernel), List.mem_of_getElem? (i := 224) (by decide +kernel)⟩
theorem lw_p2 : lw_okq (⟨"CutTreeKeeper", "buildAnew", "()V"⟩, 4) := ⟨⟨by decide +kernel, by decide +kernel⟩, List.mem_of_getElem? (i := 12) (by decide +kernel), List.mem_of_getElem? (i := 231) (by decide +kernel), List.mem_of_getElem? (i := 232) (by decide +kernel)⟩
theorem lw_p3 : lw_okq (⟨"CutTreeKeeper$NearCutFinder", "findPath", "(II)Z"⟩, 4) := ⟨⟨by decide +kernel, by decide +kernel⟩, List.mem_of_getElem? (i := 70) (by decide +kernel), List.mem_of_getElem? (i := 247) (by decide +kernel), List.mem_of_getElem? (i := 248) (by decide +kernel)⟩
theorem lw_p4 : lw_okq (⟨"CutTreeKeeper$NearCutFinder", "narrowest", "(II)I"⟩, 4) := ⟨⟨by decide +kernel, by decide +kernel⟩, List.mem_of_getElem? (i := 70) (by decide +kernel), List.mem_of_getElem? (i := 255) (by decide +kernel), List.mem_of_getElem? (i := 256) (by decide +kernel)⟩
theorem lw_p5 : lw_okq (⟨"CutTreeKeeper$NearCutFinder", "isBehind", "(II)Z"⟩, 4) := ⟨⟨by decide +kernel, by decide +kernel⟩, List.mem_of_getElem? (i := 70) (by decide +kernel), List.mem_of_getElem? (i := 260) (by decide +kernel), List.mem_of_getElem? (i := 261) (by decide +kernel)⟩
theorem lw_p6 : lw_okq (⟨"CutTreeKeeper$NearCutFinder", "sendAlong", "(III)V"⟩, 4) := ⟨⟨by decide +kernel, by decide +kernel⟩, List.mem_of_getElem? (i := 70) (by decide +kernel), List.mem_of_getElem? (i := 265) (by decide +kernel), List.mem_of_getElem? (i := 266) (by decide +kernel)⟩
theorem lw_p7 : lw_okq (⟨"CutTreeKeeper$CutTree", "splitOff", "(III)V"⟩, 7) := ⟨⟨by decide +kernel, by decide +kernel⟩, List.mem_of_getElem? (i := 64) (by decide +kernel), List.mem_of_getElem? (i := 270) (by decide +kernel), List.mem_of_getElem? (i := 271) (by decide +kernel)⟩
theorem lw_p8 : lw_okq (⟨"CutTreeKeeper$CutTree", "hasParent", "(I)Z"⟩, 7) := ⟨⟨by decide +kernel, by decide +kernel⟩, List.mem_of_getElem? (i := 64) (by decide +kernel), List.mem_of_getElem? (i := 275) (by decide +kernel), List.mem_of_getElem? (i := 276) (by decide +kernel)⟩
theorem lw_p9 : lw_okq (⟨"CutTreeKeeper$CutTree", "collectSides", "()V"⟩, 7) := ⟨⟨by decide +kernel, by decide +kernel⟩, List.mem_of_getElem? (i := 64) (by decide +kernel), List.mem_of_getElem? (i := 279) (by decide +kernel), List.mem_of_getElem? (i := 280) (by decide +kernel)⟩
theorem lw_p10 : lw_okq (⟨"CutTreeKeeper", "storedNodeError", "(I)I"⟩, 4) := ⟨⟨by decide +kernel, by decide +kernel⟩, List.mem_of_getElem? (i := 12) (by decide +kernel), List.mem_of_getElem? (i := 294) (by decide +kernel), List.mem_of_getElem? (i := 295) (by decide +kernel)⟩
theorem lw_p11 : lw_okq (⟨"CutTreeKeeper", "storedPairError", "(II)I"⟩, 4) := ⟨⟨by decide +kernel, by decide +kernel⟩, List.mem_of_getElem? (i := 12) (by decide +kernel), List.mem_of_getElem? (i := 321) (by decide +kernel), List.mem_of_getElem? (i := 322) (by decide +kernel)⟩
theorem lw_p12 : lw_okq (⟨"CutTreeKeeper$CutTree", "leastLabel", "(II)I"⟩, 7) := ⟨⟨by decide +kernel, by decide +kernel⟩, List.mem_of_getElem? (i := 64) (by decide +kernel), List.mem_of_getElem? (i := 329) (by decide +kernel), List.mem_of_getElem? (i := 330) (by decide +kernel)⟩
theorem lw_p13 : lw_okq (⟨"CutTreeKeeper$CutTree", "lightestOnWay", "(II)I"⟩, 7) := ⟨⟨by decide +kernel, by decide +kernel⟩, List.mem_of_getElem? (i := 64) (by decide +kernel), List.mem_of_getElem? (i := 345) (by decide +kernel), List.mem_of_getElem? (i := 346) (by decide +kernel)⟩
theorem lw_p14 : lw_okq (⟨"CutTreeKeeper$CutTree", "placeOnWay", "(II)I"⟩, 7) := ⟨⟨by decide +kernel, by decide +kernel⟩, List.mem_of_getElem? (i := 64) (by decide +kernel), List.mem_of_getElem? (i := 349) (by decide +kernel), List.mem_of_getElem? (i := 350) (by decide +kernel)⟩
theorem lw_p15 : lw_okq (⟨"CutTreeKeeper", "makeBoundsMeet", "(II)V"⟩, 4) := ⟨⟨by decide +kernel, by decide +kernel⟩, List.mem_of_getElem? (i := 12) (by decide +kernel), List.mem_of_getElem? (i := 363) (by decide +kernel), List.mem_of_getElem? (i := 364) (by decide +kernel)⟩
def lw_privs_1 : List (MethodName × Nat) := [(⟨"CutTreeKeeper", "pairError", "(II)I"⟩, 4), (⟨"CutTreeKeeper", "freshen", "()V"⟩, 4), (⟨"CutTreeKeeper", "buildAnew", "()V"⟩, 4), (⟨"CutTreeKeeper$NearCutFinder", "findPath", "(II)Z"⟩, 4), (⟨"CutTreeKeeper$NearCutFinder", "narrowest", "(II)I"⟩, 4), (⟨"CutTreeKeeper$NearCutFinder", "isBehind", "(II)Z"⟩, 4), (⟨"CutTreeKeeper$NearCutFinder", "sendAlong", "(III)V"⟩, 4), (⟨"CutTreeKeeper$CutTree", "splitOff", "(III)V"⟩, 7), (⟨"CutTreeKeeper$CutTree", "hasParent", "(I)Z"⟩, 7), (⟨"CutTreeKeeper$CutTree", "collectSides", "()V"⟩, 7), (⟨"CutTreeKeeper", "storedNodeError", "(I)I"⟩, 4), (⟨"CutTreeKeeper", "storedPairError", "(II)I"⟩, 4), (⟨"CutTreeKeeper$CutTree", "leastLabel", "(II)I"⟩, 7), (⟨"CutTreeKeeper$CutTree", "lightestOnWay", "(II)I"⟩, 7), (⟨"CutTreeKeeper$CutTree", "placeOnWay", "(II)I"⟩, 7), (⟨"CutTreeKeeper", "makeBoundsMeet", "(II)V"⟩, 4)]
theorem lw_r1 : ∀ q ∈ lw_privs_1, lw_okq q := List.forall_mem_cons.mpr ⟨lw_p0, List.forall_mem_cons.mpr ⟨lw_p1, List.forall_mem_cons.mpr ⟨lw_p2, List.forall_mem_cons.mpr ⟨lw_p3, List.forall_mem_cons.mpr ⟨lw_p4, List.forall_mem_cons.mpr ⟨lw_p5, List.forall_mem_cons.mpr ⟨lw_p6, List.forall_mem_cons.mpr ⟨lw_p7, List.forall_mem_cons.mpr ⟨lw_p8, List.forall_mem_cons.mpr ⟨lw_p9, List.forall_mem_cons.mpr ⟨lw_p10, List.forall_mem_cons.mpr ⟨lw_p11, List.forall_mem_cons.mpr ⟨lw_p12, List.forall_mem_cons.mpr ⟨lw_p13, List.forall_mem_cons.mpr ⟨lw_p14, List.forall_mem_cons.mpr ⟨lw_p15, fun _ h => absurd h List.not_mem_nil⟩⟩⟩⟩⟩⟩⟩⟩⟩⟩⟩⟩⟩⟩⟩⟩
theorem lw_p16 : lw_okq (⟨"CutTreeKeeper$CutTree", "lighterThan", "(I)I"⟩, 7) := ⟨⟨by decide +kernel, by decide +kernel⟩, List.mem_of_getElem? (i := 64) (by decide +kernel), List.mem_of_getElem? (i := 390) (by decide +kernel), List.mem_of_getElem? (i := 391) (by decide +kernel)⟩
theorem lw_p17 : lw_okq (⟨"CutTreeKeeperModel", "twoBarred", "(II)I"⟩, 14) := ⟨⟨by decide +kernel, by decide +kernel⟩, List.mem_of_getElem? (i := 426) (by decide +kernel), List.mem_of_getElem? (i := 486) (by decide +kernel), List.mem_of_getElem? (i := 487) (by decide +kernel)⟩
theorem lw_p18 : lw_okq (⟨"CutTreeKeeperModel", "noNode", "(I)Z"⟩, 14) := ⟨⟨by decide +kernel, by decide +kernel⟩, List.mem_of_getElem? (i := 426) (by decide +kernel), List.mem_of_getElem? (i := 490) (by decide +kernel), List.mem_of_getElem? (i := 491) (by decide +kernel)⟩
theorem lw_p19 : lw_okq (⟨"CutTreeKeeperModel", "keepChange", "(III)V"⟩, 14) := ⟨⟨by decide +kernel, by decide +kernel⟩, List.mem_of_getElem? (i := 426) (by decide +kernel), List.mem_of_getElem? (i := 494) (by decide +kernel), List.mem_of_getElem? (i := 495) (by decide +kernel)⟩
theorem lw_p20 : lw_okq (⟨"CutTreeKeeperModel", "putCapacity", "(III)V"⟩, 14) := ⟨⟨by decide +kernel, by decide +kernel⟩, List.mem_of_getElem? (i := 426) (by decide +kernel), List.mem_of_getElem? (i := 498) (by decide +kernel), List.mem_of_getElem? (i := 499) (by decide +kernel)⟩
theorem lw_p21 : lw_okq (⟨"CutTreeKeeperModel", "pairs", "()I"⟩, 14) := ⟨⟨by decide +kernel, by decide +kernel⟩, List.mem_of_getElem? (i := 426) (by decide +kernel), List.mem_of_getElem? (i := 514) (by decide +kernel), List.mem_of_getElem? (i := 515) (by decide +kernel)⟩
theorem lw_p22 : lw_okq (⟨"CutTreeKeeperModel", "isCut", "(I)Z"⟩, 14) := ⟨⟨by decide +kernel, by decide +kernel⟩, List.mem_of_getElem? (i := 426) (by decide +kernel), List.mem_of_getElem? (i := 522) (by decide +kernel), List.mem_of_getElem? (i := 523) (by decide +kernel)⟩
theorem lw_p23 : lw_okq (⟨"CutTreeKeeperModel", "full", "()I"⟩, 14) := ⟨⟨by decide +kernel, by decide +kernel⟩, List.mem_of_getElem? (i := 426) (by decide +kernel), List.mem_of_getElem? (i := 526) (by decide +kernel), List.mem_of_getElem? (i := 527) (by decide +kernel)⟩
theorem lw_p24 : lw_okq (⟨"CutTreeKeeperModel", "weigh", "(I)I"⟩, 14) := ⟨⟨by decide +kernel, by decide +kernel⟩, List.mem_of_getElem? (i := 426) (by decide +kernel), List.mem_of_getElem? (i := 530) (by decide +kernel), List.mem_of_getElem? (i := 531) (by decide +kernel)⟩
theorem lw_p25 : lw_okq (⟨"CutTreeKeeperModel", "freshen", "()V"⟩, 14) := ⟨⟨by decide +kernel, by decide +kernel⟩, List.mem_of_getElem? (i := 426) (by decide +kernel), List.mem_of_getElem? (i := 541) (by decide +kernel), List.mem_of_getElem? (i := 542) (by decide +kernel)⟩
theorem lw_p26 : lw_okq (⟨"CutTreeKeeperModel", "isNew", "()Z"⟩, 14) := ⟨⟨by decide +kernel, by decide +kernel⟩, List.mem_of_getElem? (i := 426) (by decide +kernel), List.mem_of_getElem? (i := 545) (by decide +kernel), List.mem_of_getElem? (i := 546) (by decide +kernel)⟩
theorem lw_p27 : lw_okq (⟨"CutTreeKeeperModel", "makeTree", "()V"⟩, 14) := ⟨⟨by decide +kernel, by decide +kernel⟩, List.mem_of_getElem? (i := 426) (by decide +kernel), List.mem_of_getElem? (i := 549) (by decide +kernel), List.mem_of_getElem? (i := 550) (by decide +kernel)⟩
theorem lw_p28 : lw_okq (⟨"CutTreeKeeperModel", "layWeights", "()V"⟩, 14) := ⟨⟨by decide +kernel, by decide +kernel⟩, List.mem_of_getElem? (i := 426) (by decide +kernel), List.mem_of_getElem? (i := 553) (by decide +kernel), List.mem_of_getElem? (i := 554) (by decide +kernel)⟩
theorem lw_p29 : lw_okq (⟨"CutTreeKeeperModel", "joinNode", "(I)V"⟩, 14) := ⟨⟨by decide +kernel, by decide +kernel⟩, List.mem_of_getElem? (i := 426) (by decide +kernel), List.mem_of_getElem? (i := 557) (by decide +kernel), List.mem_of_getElem? (i := 558) (by decide +kernel)⟩
theorem lw_p30 : lw_okq (⟨"CutTreeKeeperModel", "findNear", "(II)V"⟩, 14) := ⟨⟨by decide +kernel, by decide +kernel⟩, List.mem_of_getElem? (i := 426) (by decide +kernel), List.mem_of_getElem? (i := 561) (by decide +kernel), List.mem_of_getElem? (i := 562) (by decide +kernel)⟩
theorem lw_p31 : lw_okq (⟨"CutTreeKeeperModel", "nodeBarred", "(I)I"⟩, 14) := ⟨⟨by decide +kernel, by decide +kernel⟩, List.mem_of_getElem? (i := 426) (by decide +kernel), List.mem_of_getElem? (i := 573) (by decide +kernel), List.mem_of_getElem? (i := 574) (by decide +kernel)⟩
def lw_privs_2 : List (MethodName × Nat) := [(⟨"CutTreeKeeper$CutTree", "lighterThan", "(I)I"⟩, 7), (⟨"CutTreeKeeperModel", "twoBarred", "(II)I"⟩, 14), (⟨"CutTreeKeeperModel", "noNode", "(I)Z"⟩, 14), (⟨"CutTreeKeeperModel", "keepChange", "(III)V"⟩, 14), (⟨"CutTreeKeeperModel", "putCapacity", "(III)V"⟩, 14), (⟨"CutTreeKeeperModel", "pairs", "()I"⟩, 14), (⟨"CutTreeKeeperModel", "isCut", "(I)Z"⟩, 14), (⟨"CutTreeKeeperModel", "full", "()I"⟩, 14), (⟨"CutTreeKeeperModel", "weigh", "(I)I"⟩, 14), (⟨"CutTreeKeeperModel", "freshen", "()V"⟩, 14), (⟨"CutTreeKeeperModel", "isNew", "()Z"⟩, 14), (⟨"CutTreeKeeperModel", "makeTree", "()V"⟩, 14), (⟨"CutTreeKeeperModel", "layWeights", "()V"⟩, 14), (⟨"CutTreeKeeperModel", "joinNode", "(I)V"⟩, 14), (⟨"CutTreeKeeperModel", "findNear", "(II)V"⟩, 14), (⟨"CutTreeKeeperModel", "nodeBarred", "(I)I"⟩, 14)]
theorem lw_r2 : ∀ q ∈ lw_privs_2, lw_okq q := List.forall_mem_cons.mpr ⟨lw_p16, List.forall_mem_cons.mpr ⟨lw_p17, List.forall_mem_cons.mpr ⟨lw_p18, List.forall_mem_cons.mpr ⟨lw_p19, List.forall_mem_cons.mpr ⟨lw_p20, List.forall_mem_cons.mpr ⟨lw_p21, List.forall_mem_cons.mpr ⟨lw_p22, List.forall_mem_cons.mpr ⟨lw_p23, List.forall_mem_cons.mpr ⟨lw_p24, List.forall_mem_cons.mpr ⟨lw_p25, List.forall_mem_cons.mpr ⟨lw_p26, List.forall_mem_cons.mpr ⟨lw_p27, List.forall_mem_cons.mpr ⟨lw_p28, List.forall_mem_cons.mpr ⟨lw_p29, List.forall_mem_cons.mpr ⟨lw_p30, List.forall_mem_cons.mpr ⟨lw_p31, fun _ h => absurd h List.not_mem_nil⟩⟩⟩⟩⟩⟩⟩⟩⟩⟩⟩⟩⟩⟩⟩⟩
theorem lw_p32 : lw_okq (⟨"CutTreeKeeperModel", "sideOf", "(I)I"⟩, 14) := ⟨⟨by decide +kernel, by decide +kernel⟩, List.mem_of_getElem? (i := 426) (by decide +kernel), List.mem_of_getElem? (i := 585) (by decide +kernel), List.mem_of_getElem? (i := 586) (by decide +kernel)⟩
theorem lw_p33 : lw_okq (⟨"CutTreeKeeperModel", "lossOf", "()I"⟩, 14) := ⟨⟨by decide +kernel, by decide +kernel⟩, List.mem_of_getElem? (i := 426) (by decide +kernel), List.mem_of_getElem? (i := 593) (by decide +kernel), List.mem_of_getElem? (i := 594) (by decide +kernel)⟩
theorem lw_p34 : lw_okq (⟨"CutTreeKeeperModel", "pathBarred", "(II)I"⟩, 14) := ⟨⟨by decide +kernel, by decide +kernel⟩, List.mem_of_getElem? (i := 426) (by decide +kernel), List.mem_of_getElem? (i := 601) (by decide +kernel), List.mem_of_getElem? (i := 602) (by decide +kernel)⟩
theorem lw_p35 : lw_okq (⟨"CutTreeKeeperModel", "lowerOf", "(II)I"⟩, 14) := ⟨⟨by decide +kernel, by decide +kernel⟩, List.mem_of_getElem? (i := 426) (by decide +kernel), List.mem_of_getElem? (i := 605) (by decide +kernel), List.mem_of_getElem? (i := 606) (by decide +kernel)⟩
theorem lw_p36 : lw_okq (⟨"CutTreeKeeperModel", "leastOn", "(IIZ)I"⟩, 14) := ⟨⟨by decide +kernel, by decide +kernel⟩, List.mem_of_getElem? (i := 426) (by decide +kernel), List.mem_of_getElem? (i := 609) (by decide +kernel), List.mem_of_getElem? (i := 610) (by decide +kernel)⟩
theorem lw_p37 : lw_okq (⟨"CutTreeKeeperModel", "isOnPath", "(III)Z"⟩, 14) := ⟨⟨by decide +kernel, by decide +kernel⟩, List.mem_of_getElem? (i := 426) (by decide +kernel), List.mem_of_getElem? (i := 613) (by decide +kernel), List.mem_of_getElem? (i := 614) (by decide +kernel)⟩
theorem lw_p38 : lw_okq (⟨"CutTreeKeeperModel", "decide", "(II)V"⟩, 14) := ⟨⟨by decide +kernel, by decide +kernel⟩, List.mem_of_getElem? (i := 426) (by decide +kernel), List.mem_of_getElem? (i := 625) (by decide +kernel), List.mem_of_getElem? (i := 626) (by decide +kernel)⟩
theorem lw_p39 : lw_okq (⟨"CutTreeKeeperModel", "classBy", "(II)I"⟩, 14) := ⟨⟨by decide +kernel, by decide +kernel⟩, List.mem_of_getElem? (i := 426) (by decide +kernel), List.mem_of_getElem? (i := 648) (by decide +kernel), List.mem_of_getElem? (i := 649) (by decide +kernel)⟩
def lw_privs_3 : List (MethodName × Nat) := [(⟨"CutTreeKeeperModel", "sideOf", "(I)I"⟩, 14), (⟨"CutTreeKeeperModel", "lossOf", "()I"⟩, 14), (⟨"CutTreeKeeperModel", "pathBarred", "(II)I"⟩, 14), (⟨"CutTreeKeeperModel", "lowerOf", "(II)I"⟩, 14), (⟨"CutTreeKeeperModel", "leastOn", "(IIZ)I"⟩, 14), (⟨"CutTreeKeeperModel", "isOnPath", "(III)Z"⟩, 14), (⟨"CutTreeKeeperModel", "decide", "(II)V"⟩, 14), (⟨"CutTreeKeeperModel", "classBy", "(II)I"⟩, 14)]
theorem lw_r3 : ∀ q ∈ lw_privs_3, lw_okq q := List.forall_mem_cons.mpr ⟨lw_p32, List.forall_mem_cons.mpr ⟨lw_p33, List.forall_mem_cons.mpr ⟨lw_p34, List.forall_mem_cons.mpr ⟨lw_p35, List.forall_mem_cons.mpr ⟨lw_p36, List.forall_mem_cons.mpr ⟨lw_p37, List.forall_mem_cons.mpr ⟨lw_p38, List.forall_mem_cons.mpr ⟨lw_p39, fun _ h => absurd h List.not_mem_nil⟩⟩⟩⟩⟩⟩⟩⟩
def lw_privs : List (MethodName × Nat) := lw_privs_1 ++ (lw_privs_2 ++ (lw_privs_3))
def lw_tbl : List Cond := k2_sels lw_privs ++ tables_1
theorem lw_privs_ok : ∀ q ∈ lw_privs, lw_okq q := by
  show ∀ q ∈ lw_privs_1 ++ (lw_privs_2 ++ (lw_privs_3)), lw_okq q
  exact List.forall_mem_append.mpr ⟨lw_r1, List.forall_mem_append.mpr ⟨lw_r2, lw_r3⟩⟩

def RX0 : String := "CutTreeKeeper$ChangeList"
def TX0 : u_T := fun k => match k with
  | 0 => ("CutTreeKeeper$ChangeList", "firsts", "[I", true)
  | 1 => ("CutTreeKeeper$ChangeList", "seconds", "[I", true)
  | 2 => ("CutTreeKeeper$ChangeList", "befores", "[I", true)
  | 3 => ("CutTreeKeeper$ChangeList", "next", "I", false)
  | _ => ("CutTreeKeeper$ChangeList", "size", "I", false)
def tyX0 : Nat → FieldType := fun k => match k with
  | 0 => .array .int
  | 1 => .array .int
  | 2 => .array .int
  | 3 => .int
  | _ => .int
abbrev wsX00 : List Cond := u_ws RX0 TX0 5
theorem nmX0 : ∀ a, a < 5 → ∀ b, b < 5 → a ≠ b → (TX0 a).2.1 ≠ (TX0 b).2.1 := by decide +kernel
theorem tyX0_ok : ∀ k, k < 5 → parseFieldDescriptor (TX0 k).2.2.1 = some (tyX0 k) := by decide +kernel
abbrev cX0_init : ByteArray := prog_2_method_1_code
def yX0_init : MethodName := ⟨RX0, "<init>", "()V"⟩
abbrev cX0_forgetAll : ByteArray := prog_2_method_2_code
def yX0_forgetAll : MethodName := ⟨RX0, "forgetAll", "()V"⟩
abbrev cX0_remember : ByteArray := prog_2_method_3_code
def yX0_remember : MethodName := ⟨RX0, "remember", "(III)V"⟩
abbrev cX0_takeBackLatest : ByteArray := prog_2_method_4_code
def yX0_takeBackLatest : MethodName := ⟨RX0, "takeBackLatest", "(LCutTreeKeeper$Graph;)V"⟩
abbrev cX0_isPlace : ByteArray := prog_2_method_5_code
def yX0_isPlace : MethodName := ⟨RX0, "isPlace", "(I)Z"⟩
def RX1 : String := "CutTreeKeeper$CutTree"
def TX1 : u_T := fun k => match k with
  | 0 => ("CutTreeKeeper$CutTree", "graph", "LCutTreeKeeper$Graph;", true)
  | 1 => ("CutTreeKeeper$CutTree", "finder", "LCutTreeKeeper$NearCutFinder;", true)
  | 2 => ("CutTreeKeeper$CutTree", "capacitiesThen", "[[I", true)
  | 3 => ("CutTreeKeeper$CutTree", "parents", "[I", true)
  | 4 => ("CutTreeKeeper$CutTree", "labels", "[I", true)
  | 5 => ("CutTreeKeeper$CutTree", "sides", "[I", true)
  | _ => ("CutTreeKeeper$CutTree", "stored", "Z", false)
def tyX1 : Nat → FieldType := fun k => match k with
  | 0 => .object "CutTreeKeeper$Graph"
  | 1 => .object "CutTreeKeeper$NearCutFinder"
  | 2 => .array (.array .int)
  | 3 => .array .int
  | 4 => .array .int
  | 5 => .array .int
  | _ => .boolean
abbrev wsX10 : List Cond := u_ws RX1 TX1 7
theorem nmX1 : ∀ a, a < 7 → ∀ b, b < 7 → a ≠ b → (TX1 a).2.1 ≠ (TX1 b).2.1 := by decide +kernel
theorem tyX1_ok : ∀ k, k < 7 → parseFieldDescriptor (TX1 k).2.2.1 = some (tyX1 k) := by decide +kernel
abbrev cX1_init : ByteArray := prog_3_method_1_code
def yX1_init : MethodName := ⟨RX1, "<init>", "(LCutTreeKeeper$Graph;)V"⟩
abbrev cX1_growAnew : ByteArray := prog_3_method_2_code
def yX1_growAnew : MethodName := ⟨RX1, "growAnew", "()V"⟩
abbrev cX1_splitOff : ByteArray := prog_3_method_3_code
def yX1_splitOff : MethodName := ⟨RX1, "splitOff", "(III)V"⟩
abbrev cX1_hasParent : ByteArray := prog_3_method_4_code
def yX1_hasParent : MethodName := ⟨RX1, "hasParent", "(I)Z"⟩
abbrev cX1_collectSides : ByteArray := prog_3_method_5_code
def yX1_collectSides : MethodName := ⟨RX1, "collectSides", "()V"⟩
abbrev cX1_fitsGraph : ByteArray := prog_3_method_6_code
def yX1_fitsGraph : MethodName := ⟨RX1, "fitsGraph", "()Z"⟩
abbrev cX1_lostCapacity : ByteArray := prog_3_method_7_code
def yX1_lostCapacity : MethodName := ⟨RX1, "lostCapacity", "()I"⟩
abbrev cX1_atLeast : ByteArray := prog_3_method_8_code
def yX1_atLeast : MethodName := ⟨RX1, "atLeast", "(II)I"⟩
abbrev cX1_atMost : ByteArray := prog_3_method_9_code
def yX1_atMost : MethodName := ⟨RX1, "atMost", "(II)I"⟩
abbrev cX1_leastLabel : ByteArray := prog_3_method_10_code
def yX1_leastLabel : MethodName := ⟨RX1, "leastLabel", "(II)I"⟩
abbrev cX1_lightestCutOnWay : ByteArray := prog_3_method_11_code
def yX1_lightestCutOnWay : MethodName := ⟨RX1, "lightestCutOnWay", "(II)I"⟩
abbrev cX1_lightestOnWay : ByteArray := prog_3_method_12_code
def yX1_lightestOnWay : MethodName := ⟨RX1, "lightestOnWay", "(II)I"⟩
abbrev cX1_placeOnWay : ByteArray := prog_3_method_13_code
def yX1_placeOnWay : MethodName := ⟨RX1, "placeOnWay", "(II)I"⟩
abbrev cX1_nodeAtPlace : ByteArray := prog_3_method_14_code
def yX1_nodeAtPlace : MethodName := ⟨RX1, "nodeAtPlace", "(I)I"⟩
abbrev cX1_lighterThan : ByteArray := prog_3_method_15_code
def yX1_lighterThan : MethodName := ⟨RX1, "lighterThan", "(I)I"⟩
abbrev cX1_labelsBelow : ByteArray := prog_3_method_16_code
def yX1_labelsBelow : MethodName := ⟨RX1, "labelsBelow", "(I)I"⟩
abbrev cX1_nodesTiedTo : ByteArray := prog_3_method_17_code
def yX1_nodesTiedTo : MethodName := ⟨RX1, "nodesTiedTo", "(II)I"⟩
abbrev cX1_nodeTiedMostTo : ByteArray := prog_3_method_18_code
def yX1_nodeTiedMostTo : MethodName := ⟨RX1, "nodeTiedMostTo", "(I)I"⟩
abbrev cX1_leastLabelAcross : ByteArray := prog_3_method_19_code
def yX1_leastLabelAcross : MethodName := ⟨RX1, "leastLabelAcross", "(I)I"⟩
def RX2 : String := "CutTreeKeeper$Graph"
def TX2 : u_T := fun k => match k with
  | 0 => ("CutTreeKeeper$Graph", "capacities", "[[I", true)
  | _ => ("CutTreeKeeper$Graph", "nodes", "I", false)
def tyX2 : Nat → FieldType := fun k => match k with
  | 0 => .array (.array .int)
  | _ => .int
abbrev wsX20 : List Cond := u_ws RX2 TX2 2
theorem nmX2 : ∀ a, a < 2 → ∀ b, b < 2 → a ≠ b → (TX2 a).2.1 ≠ (TX2 b).2.1 := by decide +kernel
theorem tyX2_ok : ∀ k, k < 2 → parseFieldDescriptor (TX2 k).2.2.1 = some (tyX2 k) := by decide +kernel
abbrev cX2_init : ByteArray := prog_4_method_1_code
def yX2_init : MethodName := ⟨RX2, "<init>", "(I)V"⟩
abbrev cX2_startWith : ByteArray := prog_4_method_2_code
def yX2_startWith : MethodName := ⟨RX2, "startWith", "(I)V"⟩
abbrev cX2_hasNode : ByteArray := prog_4_method_3_code
def yX2_hasNode : MethodName := ⟨RX2, "hasNode", "(I)Z"⟩
abbrev cX2_between : ByteArray := prog_4_method_4_code
def yX2_between : MethodName := ⟨RX2, "between", "(II)I"⟩
abbrev cX2_put : ByteArray := prog_4_method_5_code
def yX2_put : MethodName := ⟨RX2, "put", "(III)V"⟩
abbrev cX2_edges : ByteArray := prog_4_method_6_code
def yX2_edges : MethodName := ⟨RX2, "edges", "()I"⟩
abbrev cX2_allNodes : ByteArray := prog_4_method_7_code
def yX2_allNodes : MethodName := ⟨RX2, "allNodes", "()I"⟩
abbrev cX2_isCut : ByteArray := prog_4_method_8_code
def yX2_isCut : MethodName := ⟨RX2, "isCut", "(I)Z"⟩
abbrev cX2_weightOf : ByteArray := prog_4_method_9_code
def yX2_weightOf : MethodName := ⟨RX2, "weightOf", "(I)I"⟩
def RX3 : String := "CutTreeKeeper$NearCutFinder"
def TX3 : u_T := fun k => match k with
  | 0 => ("CutTreeKeeper$NearCutFinder", "rest", "[[I", true)
  | 1 => ("CutTreeKeeper$NearCutFinder", "cameFrom", "[I", true)
  | 2 => ("CutTreeKeeper$NearCutFinder", "nodes", "I", false)
  | _ => ("CutTreeKeeper$NearCutFinder", "reached", "I", false)
def tyX3 : Nat → FieldType := fun k => match k with
  | 0 => .array (.array .int)
  | 1 => .array .int
  | 2 => .int
  | _ => .int
abbrev wsX30 : List Cond := u_ws RX3 TX3 4
theorem nmX3 : ∀ a, a < 4 → ∀ b, b < 4 → a ≠ b → (TX3 a).2.1 ≠ (TX3 b).2.1 := by decide +kernel
theorem tyX3_ok : ∀ k, k < 4 → parseFieldDescriptor (TX3 k).2.2.1 = some (tyX3 k) := by decide +kernel
abbrev cX3_init : ByteArray := prog_5_method_1_code
def yX3_init : MethodName := ⟨RX3, "<init>", "()V"⟩
abbrev cX3_nearCut : ByteArray := prog_5_method_2_code
def yX3_nearCut : MethodName := ⟨RX3, "nearCut", "(LCutTreeKeeper$Graph;II)I"⟩
abbrev cX3_findPath : ByteArray := prog_5_method_3_code
def yX3_findPath : MethodName := ⟨RX3, "findPath", "(II)Z"⟩
abbrev cX3_narrowest : ByteArray := prog_5_method_4_code
def yX3_narrowest : MethodName := ⟨RX3, "narrowest", "(II)I"⟩
abbrev cX3_sendAlong : ByteArray := prog_5_method_5_code
def yX3_sendAlong : MethodName := ⟨RX3, "sendAlong", "(III)V"⟩
abbrev cX3_isBehind : ByteArray := prog_5_method_6_code
def yX3_isBehind : MethodName := ⟨RX3, "isBehind", "(II)Z"⟩
def RX4 : String := "CutTreeKeeper"
def TX4 : u_T := fun k => match k with
  | 0 => ("CutTreeKeeper", "graph", "LCutTreeKeeper$Graph;", true)
  | 1 => ("CutTreeKeeper", "changes", "LCutTreeKeeper$ChangeList;", true)
  | 2 => ("CutTreeKeeper", "tree", "LCutTreeKeeper$CutTree;", true)
  | _ => ("CutTreeKeeper", "flows", "I", false)
def tyX4 : Nat → FieldType := fun k => match k with
  | 0 => .object "CutTreeKeeper$Graph"
  | 1 => .object "CutTreeKeeper$ChangeList"
  | 2 => .object "CutTreeKeeper$CutTree"
  | _ => .int
abbrev wsX40 : List Cond := u_ws RX4 TX4 4
theorem nmX4 : ∀ a, a < 4 → ∀ b, b < 4 → a ≠ b → (TX4 a).2.1 ≠ (TX4 b).2.1 := by decide +kernel
theorem tyX4_ok : ∀ k, k < 4 → parseFieldDescriptor (TX4 k).2.2.1 = some (tyX4 k) := by decide +kernel
abbrev cX4_init : ByteArray := prog_1_method_1_code
def yX4_init : MethodName := ⟨RX4, "<init>", "()V"⟩
abbrev cX4_reset : ByteArray := prog_1_method_2_code
def yX4_reset : MethodName := ⟨RX4, "reset", "(I)I"⟩
abbrev cX4_setCapacity : ByteArray := prog_1_method_3_code
def yX4_setCapacity : MethodName := ⟨RX4, "setCapacity", "(III)I"⟩
abbrev cX4_undo : ByteArray := prog_1_method_4_code
def yX4_undo : MethodName := ⟨RX4, "undo", "()I"⟩
abbrev cX4_capacity : ByteArray := prog_1_method_5_code
def yX4_capacity : MethodName := ⟨RX4, "capacity", "(II)I"⟩
abbrev cX4_count : ByteArray := prog_1_method_6_code
def yX4_count : MethodName := ⟨RX4, "count", "(I)I"⟩
abbrev cX4_cutWeight : ByteArray := prog_1_method_7_code
def yX4_cutWeight : MethodName := ⟨RX4, "cutWeight", "(I)I"⟩
abbrev cX4_build : ByteArray := prog_1_method_8_code
def yX4_build : MethodName := ⟨RX4, "build", "()I"⟩
abbrev cX4_isFresh : ByteArray := prog_1_method_9_code
def yX4_isFresh : MethodName := ⟨RX4, "isFresh", "()I"⟩
abbrev cX4_parent : ByteArray := prog_1_method_10_code
def yX4_parent : MethodName := ⟨RX4, "parent", "(I)I"⟩
abbrev cX4_label : ByteArray := prog_1_method_11_code
def yX4_label : MethodName := ⟨RX4, "label", "(I)I"⟩
abbrev cX4_side : ByteArray := prog_1_method_12_code
def yX4_side : MethodName := ⟨RX4, "side", "(I)I"⟩
abbrev cX4_loss : ByteArray := prog_1_method_13_code
def yX4_loss : MethodName := ⟨RX4, "loss", "()I"⟩
abbrev cX4_lowerBound : ByteArray := prog_1_method_14_code
def yX4_lowerBound : MethodName := ⟨RX4, "lowerBound", "(II)I"⟩
abbrev cX4_upperBound : ByteArray := prog_1_method_15_code
def yX4_upperBound : MethodName := ⟨RX4, "upperBound", "(II)I"⟩
abbrev cX4_minimumCut : ByteArray := prog_1_method_16_code
def yX4_minimumCut : MethodName := ⟨RX4, "minimumCut", "(II)I"⟩
abbrev cX4_witness : ByteArray := prog_1_method_17_code
def yX4_witness : MethodName := ⟨RX4, "witness", "(II)I"⟩
abbrev cX4_isAtLeast : ByteArray := prog_1_method_18_code
def yX4_isAtLeast : MethodName := ⟨RX4, "isAtLeast", "(III)I"⟩
abbrev cX4_lightCut : ByteArray := prog_1_method_19_code
def yX4_lightCut : MethodName := ⟨RX4, "lightCut", "(I)I"⟩
abbrev cX4_classCount : ByteArray := prog_1_method_20_code
def yX4_classCount : MethodName := ⟨RX4, "classCount", "(I)I"⟩
abbrev cX4_classOf : ByteArray := prog_1_method_21_code
def yX4_classOf : MethodName := ⟨RX4, "classOf", "(II)I"⟩
abbrev cX4_partner : ByteArray := prog_1_method_22_code
def yX4_partner : MethodName := ⟨RX4, "partner", "(I)I"⟩
abbrev cX4_leastAcross : ByteArray := prog_1_method_23_code
def yX4_leastAcross : MethodName := ⟨RX4, "leastAcross", "(I)I"⟩
abbrev cX4_pairError : ByteArray := prog_1_method_24_code
def yX4_pairError : MethodName := ⟨RX4, "pairError", "(II)I"⟩
abbrev cX4_storedPairError : ByteArray := prog_1_method_25_code
def yX4_storedPairError : MethodName := ⟨RX4, "storedPairError", "(II)I"⟩
abbrev cX4_storedNodeError : ByteArray := prog_1_method_26_code
def yX4_storedNodeError : MethodName := ⟨RX4, "storedNodeError", "(I)I"⟩
abbrev cX4_isLimit : ByteArray := prog_1_method_27_code
def yX4_isLimit : MethodName := ⟨RX4, "isLimit", "(I)Z"⟩
abbrev cX4_freshen : ByteArray := prog_1_method_28_code
def yX4_freshen : MethodName := ⟨RX4, "freshen", "()V"⟩
abbrev cX4_makeBoundsMeet : ByteArray := prog_1_method_29_code
def yX4_makeBoundsMeet : MethodName := ⟨RX4, "makeBoundsMeet", "(II)V"⟩
abbrev cX4_buildAnew : ByteArray := prog_1_method_30_code
def yX4_buildAnew : MethodName := ⟨RX4, "buildAnew", "()V"⟩
abbrev cX4_only : ByteArray := prog_1_method_31_code
def yX4_only : MethodName := ⟨RX4, "only", "(I)I"⟩
abbrev cX4_holds : ByteArray := prog_1_method_32_code
def yX4_holds : MethodName := ⟨RX4, "holds", "(II)Z"⟩
abbrev cX4_separates : ByteArray := prog_1_method_33_code
def yX4_separates : MethodName := ⟨RX4, "separates", "(III)Z"⟩
def RX5 : String := "CutTreeKeeperModel"
def TX5 : u_T := fun k => match k with
  | 0 => ("CutTreeKeeperModel", "nodes", "I", false)
  | 1 => ("CutTreeKeeperModel", "capacityOf", "[I", true)
  | 2 => ("CutTreeKeeperModel", "changes", "I", false)
  | 3 => ("CutTreeKeeperModel", "changeFrom", "[I", true)
  | 4 => ("CutTreeKeeperModel", "changeTo", "[I", true)
  | 5 => ("CutTreeKeeperModel", "changeWas", "[I", true)
  | 6 => ("CutTreeKeeperModel", "flows", "I", false)
  | 7 => ("CutTreeKeeperModel", "isStored", "Z", false)
  | 8 => ("CutTreeKeeperModel", "parentOf", "[I", true)
  | 9 => ("CutTreeKeeperModel", "labelOf", "[I", true)
  | 10 => ("CutTreeKeeperModel", "builtWith", "[I", true)
  | 11 => ("CutTreeKeeperModel", "weightOf", "[I", true)
  | 12 => ("CutTreeKeeperModel", "nearSet", "I", false)
  | _ => ("CutTreeKeeperModel", "nearWeight", "I", false)
def tyX5 : Nat → FieldType := fun k => match k with
  | 0 => .int
  | 1 => .array .int
  | 2 => .int
  | 3 => .array .int
  | 4 => .array .int
  | 5 => .array .int
  | 6 => .int
  | 7 => .boolean
  | 8 => .array .int
  | 9 => .array .int
  | 10 => .array .int
  | 11 => .array .int
  | 12 => .int
  | _ => .int
abbrev wsX50 : List Cond := u_ws RX5 TX5 14
theorem nmX5 : ∀ a, a < 14 → ∀ b, b < 14 → a ≠ b → (TX5 a).2.1 ≠ (TX5 b).2.1 := by decide +kernel
theorem tyX5_ok : ∀ k, k < 14 → parseFieldDescriptor (TX5 k).2.2.1 = some (tyX5 k) := by decide +kernel
abbrev cX5_init : ByteArray := prog_7_method_1_code
def yX5_init : MethodName := ⟨RX5, "<init>", "()V"⟩
abbrev cX5_within : ByteArray := prog_7_method_2_code
def yX5_within : MethodName := ⟨RX5, "within", "(III)Z"⟩
abbrev cX5_isIn : ByteArray := prog_7_method_3_code
def yX5_isIn : MethodName := ⟨RX5, "isIn", "(II)Z"⟩
abbrev cX5_noNode : ByteArray := prog_7_method_4_code
def yX5_noNode : MethodName := ⟨RX5, "noNode", "(I)Z"⟩
abbrev cX5_twoBarred : ByteArray := prog_7_method_5_code
def yX5_twoBarred : MethodName := ⟨RX5, "twoBarred", "(II)I"⟩
abbrev cX5_putCapacity : ByteArray := prog_7_method_6_code
def yX5_putCapacity : MethodName := ⟨RX5, "putCapacity", "(III)V"⟩
abbrev cX5_reset : ByteArray := prog_7_method_7_code
def yX5_reset : MethodName := ⟨RX5, "reset", "(I)I"⟩
abbrev cX5_keepChange : ByteArray := prog_7_method_8_code
def yX5_keepChange : MethodName := ⟨RX5, "keepChange", "(III)V"⟩
abbrev cX5_setCapacity : ByteArray := prog_7_method_9_code
def yX5_setCapacity : MethodName := ⟨RX5, "setCapacity", "(III)I"⟩
abbrev cX5_undo : ByteArray := prog_7_method_10_code
def yX5_undo : MethodName := ⟨RX5, "undo", "()I"⟩
abbrev cX5_capacity : ByteArray := prog_7_method_11_code
def yX5_capacity : MethodName := ⟨RX5, "capacity", "(II)I"⟩
abbrev cX5_pairs : ByteArray := prog_7_method_12_code
def yX5_pairs : MethodName := ⟨RX5, "pairs", "()I"⟩
abbrev cX5_count : ByteArray := prog_7_method_13_code
def yX5_count : MethodName := ⟨RX5, "count", "(I)I"⟩
abbrev cX5_full : ByteArray := prog_7_method_14_code
def yX5_full : MethodName := ⟨RX5, "full", "()I"⟩
abbrev cX5_weigh : ByteArray := prog_7_method_15_code
def yX5_weigh : MethodName := ⟨RX5, "weigh", "(I)I"⟩
abbrev cX5_isCut : ByteArray := prog_7_method_16_code
def yX5_isCut : MethodName := ⟨RX5, "isCut", "(I)Z"⟩
abbrev cX5_cutWeight : ByteArray := prog_7_method_17_code
def yX5_cutWeight : MethodName := ⟨RX5, "cutWeight", "(I)I"⟩
abbrev cX5_layWeights : ByteArray := prog_7_method_18_code
def yX5_layWeights : MethodName := ⟨RX5, "layWeights", "()V"⟩
abbrev cX5_findNear : ByteArray := prog_7_method_19_code
def yX5_findNear : MethodName := ⟨RX5, "findNear", "(II)V"⟩
abbrev cX5_joinNode : ByteArray := prog_7_method_20_code
def yX5_joinNode : MethodName := ⟨RX5, "joinNode", "(I)V"⟩
abbrev cX5_makeTree : ByteArray := prog_7_method_21_code
def yX5_makeTree : MethodName := ⟨RX5, "makeTree", "()V"⟩
abbrev cX5_isNew : ByteArray := prog_7_method_22_code
def yX5_isNew : MethodName := ⟨RX5, "isNew", "()Z"⟩
abbrev cX5_freshen : ByteArray := prog_7_method_23_code
def yX5_freshen : MethodName := ⟨RX5, "freshen", "()V"⟩
abbrev cX5_build : ByteArray := prog_7_method_24_code
def yX5_build : MethodName := ⟨RX5, "build", "()I"⟩
abbrev cX5_isFresh : ByteArray := prog_7_method_25_code
def yX5_isFresh : MethodName := ⟨RX5, "isFresh", "()I"⟩
abbrev cX5_nodeBarred : ByteArray := prog_7_method_26_code
def yX5_nodeBarred : MethodName := ⟨RX5, "nodeBarred", "(I)I"⟩
abbrev cX5_parent : ByteArray := prog_7_method_27_code
def yX5_parent : MethodName := ⟨RX5, "parent", "(I)I"⟩
abbrev cX5_label : ByteArray := prog_7_method_28_code
def yX5_label : MethodName := ⟨RX5, "label", "(I)I"⟩
abbrev cX5_sideOf : ByteArray := prog_7_method_29_code
def yX5_sideOf : MethodName := ⟨RX5, "sideOf", "(I)I"⟩
abbrev cX5_side : ByteArray := prog_7_method_30_code
def yX5_side : MethodName := ⟨RX5, "side", "(I)I"⟩
abbrev cX5_lossOf : ByteArray := prog_7_method_31_code
def yX5_lossOf : MethodName := ⟨RX5, "lossOf", "()I"⟩
abbrev cX5_loss : ByteArray := prog_7_method_32_code
def yX5_loss : MethodName := ⟨RX5, "loss", "()I"⟩
abbrev cX5_isOnPath : ByteArray := prog_7_method_33_code
def yX5_isOnPath : MethodName := ⟨RX5, "isOnPath", "(III)Z"⟩
abbrev cX5_leastOn : ByteArray := prog_7_method_34_code
def yX5_leastOn : MethodName := ⟨RX5, "leastOn", "(IIZ)I"⟩
abbrev cX5_lowerOf : ByteArray := prog_7_method_35_code
def yX5_lowerOf : MethodName := ⟨RX5, "lowerOf", "(II)I"⟩
abbrev cX5_pathBarred : ByteArray := prog_7_method_36_code
def yX5_pathBarred : MethodName := ⟨RX5, "pathBarred", "(II)I"⟩
abbrev cX5_lowerBound : ByteArray := prog_7_method_37_code
def yX5_lowerBound : MethodName := ⟨RX5, "lowerBound", "(II)I"⟩
abbrev cX5_upperBound : ByteArray := prog_7_method_38_code
def yX5_upperBound : MethodName := ⟨RX5, "upperBound", "(II)I"⟩
abbrev cX5_decide : ByteArray := prog_7_method_39_code
def yX5_decide : MethodName := ⟨RX5, "decide", "(II)V"⟩
abbrev cX5_minimumCut : ByteArray := prog_7_method_40_code
def yX5_minimumCut : MethodName := ⟨RX5, "minimumCut", "(II)I"⟩
abbrev cX5_witness : ByteArray := prog_7_method_41_code
def yX5_witness : MethodName := ⟨RX5, "witness", "(II)I"⟩
abbrev cX5_isLimit : ByteArray := prog_7_method_42_code
def yX5_isLimit : MethodName := ⟨RX5, "isLimit", "(I)Z"⟩
abbrev cX5_isAtLeast : ByteArray := prog_7_method_43_code
def yX5_isAtLeast : MethodName := ⟨RX5, "isAtLeast", "(III)I"⟩
abbrev cX5_lightCut : ByteArray := prog_7_method_44_code
def yX5_lightCut : MethodName := ⟨RX5, "lightCut", "(I)I"⟩
abbrev cX5_classBy : ByteArray := prog_7_method_45_code
def yX5_classBy : MethodName := ⟨RX5, "classBy", "(II)I"⟩
abbrev cX5_classCount : ByteArray := prog_7_method_46_code
def yX5_classCount : MethodName := ⟨RX5, "classCount", "(I)I"⟩
abbrev cX5_classOf : ByteArray := prog_7_method_47_code
def yX5_classOf : MethodName := ⟨RX5, "classOf", "(II)I"⟩
abbrev cX5_partner : ByteArray := prog_7_method_48_code
def yX5_partner : MethodName := ⟨RX5, "partner", "(I)I"⟩
abbrev cX5_leastAcross : ByteArray := prog_7_method_49_code
def yX5_leastAcross : MethodName := ⟨RX5, "leastAcross", "(I)I"⟩
def RJ6 : String := "java/lang/Integer"
def TJ6 : u_T := fun k => match k with
  | _ => ("", "", "", false)
def tyJ6 : Nat → FieldType := fun k => match k with
  | _ => .int
abbrev wsJ60 : List Cond := u_ws RJ6 TJ6 0
theorem nmJ6 : ∀ a, a < 0 → ∀ b, b < 0 → a ≠ b → (TJ6 a).2.1 ≠ (TJ6 b).2.1 := by decide +kernel
theorem tyJ6_ok : ∀ k, k < 0 → parseFieldDescriptor (TJ6 k).2.2.1 = some (tyJ6 k) := by decide +kernel
abbrev cJ6_bitCount_0f7a4 : ByteArray := prog_8_method_49_code
def yJ6_bitCount_0f7a4 : MethodName := ⟨RJ6, "bitCount", "(I)I"⟩
def RJ9 : String := "java/lang/Math"
def TJ9 : u_T := fun k => match k with
  | _ => ("", "", "", false)
def tyJ9 : Nat → FieldType := fun k => match k with
  | _ => .int
abbrev wsJ90 : List Cond := u_ws RJ9 TJ9 0
theorem nmJ9 : ∀ a, a < 0 → ∀ b, b < 0 → a ≠ b → (TJ9 a).2.1 ≠ (TJ9 b).2.1 := by decide +kernel
theorem tyJ9_ok : ∀ k, k < 0 → parseFieldDescriptor (TJ9 k).2.2.1 = some (tyJ9 k) := by decide +kernel
abbrev cJ9_max_7cf53 : ByteArray := prog_9_method_65_code
def yJ9_max_7cf53 : MethodName := ⟨RJ9, "max", "(II)I"⟩
abbrev cJ9_min_7cf53 : ByteArray := prog_9_method_69_code
def yJ9_min_7cf53 : MethodName := ⟨RJ9, "min", "(II)I"⟩
def RJ10 : String := "java/lang/System"
def TJ10 : u_T := fun k => match k with
  | _ => ("", "", "", false)
def tyJ10 : Nat → FieldType := fun k => match k with
  | _ => .int
abbrev wsJ100 : List Cond := u_ws RJ10 TJ10 0
theorem nmJ10 : ∀ a, a < 0 → ∀ b, b < 0 → a ≠ b → (TJ10 a).2.1 ≠ (TJ10 b).2.1 := by decide +kernel
theorem tyJ10_ok : ∀ k, k < 0 → parseFieldDescriptor (TJ10 k).2.2.1 = some (tyJ10 k) := by decide +kernel
def RJ7 : String := "java/util/Arrays"
def TJ7 : u_T := fun k => match k with
  | _ => ("", "", "", false)
def tyJ7 : Nat → FieldType := fun k => match k with
  | _ => .int
abbrev wsJ70 : List Cond := u_ws RJ7 TJ7 0
theorem nmJ7 : ∀ a, a < 0 → ∀ b, b < 0 → a ≠ b → (TJ7 a).2.1 ≠ (TJ7 b).2.1 := by decide +kernel
theorem tyJ7_ok : ∀ k, k < 0 → parseFieldDescriptor (TJ7 k).2.2.1 = some (tyJ7 k) := by decide +kernel
abbrev cJ7_fill_53178 : ByteArray := prog_11_method_103_code
def yJ7_fill_53178 : MethodName := ⟨RJ7, "fill", "([II)V"⟩
def RL : String := "CutTreeKeeperLaw"
abbrev cL_law : ByteArray := code
def yL_law : MethodName := ⟨RL, "law", "([I)Z"⟩
abbrev vwCl : List vw_C := [(RX0, TX0, 5), (RX1, TX1, 7), (RX2, TX2, 2), (RX3, TX3, 4), (RX4, TX4, 4), (RX5, TX5, 14)]
