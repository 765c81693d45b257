section
-- ===== PART A: goes FIRST, ahead of the names: the tables' words, and 'selects' of the private methods out of them =====
/-- a private method of a class that the tables say can be made, by its rows of tables_1 -/
def lw_okq (q : MethodName × Nat) : Prop := (q.1.cls ≠ "java/lang/invoke/MethodHandle" ∧ q.1.cls ≠ "java/lang/invoke/VarHandle") ∧ Cond.instantiable q.1.cls q.2 ∈ tables_1 ∧ Cond.privateMethod q.1 ∈ tables_1 ∧ Cond.instanceMethod q.1 ∈ tables_1
theorem lw_p0 : lw_okq (⟨"CountedObjects", "takeUnreached", "(I)I"⟩, 8) := ⟨⟨by decide +kernel, by decide +kernel⟩, List.mem_of_getElem? (i := 14) (by decide +kernel), List.mem_of_getElem? (i := 79) (by decide +kernel), List.mem_of_getElem? (i := 80) (by decide +kernel)⟩
theorem lw_p1 : lw_okq (⟨"CountedObjects", "findReached", "(I)V"⟩, 8) := ⟨⟨by decide +kernel, by decide +kernel⟩, List.mem_of_getElem? (i := 14) (by decide +kernel), List.mem_of_getElem? (i := 83) (by decide +kernel), List.mem_of_getElem? (i := 84) (by decide +kernel)⟩
theorem lw_p2 : lw_okq (⟨"CountedObjects", "reach", "(I)V"⟩, 8) := ⟨⟨by decide +kernel, by decide +kernel⟩, List.mem_of_getElem? (i := 14) (by decide +kernel), List.mem_of_getElem? (i := 87) (by decide +kernel), List.mem_of_getElem? (i := 88) (by decide +kernel)⟩
theorem lw_p3 : lw_okq (⟨"CountedObjects", "isObject", "(I)Z"⟩, 8) := ⟨⟨by decide +kernel, by decide +kernel⟩, List.mem_of_getElem? (i := 14) (by decide +kernel), List.mem_of_getElem? (i := 91) (by decide +kernel), List.mem_of_getElem? (i := 92) (by decide +kernel)⟩
theorem lw_p4 : lw_okq (⟨"CountedObjects", "isUsed", "(I)Z"⟩, 8) := ⟨⟨by decide +kernel, by decide +kernel⟩, List.mem_of_getElem? (i := 14) (by decide +kernel), List.mem_of_getElem? (i := 95) (by decide +kernel), List.mem_of_getElem? (i := 96) (by decide +kernel)⟩
theorem lw_p5 : lw_okq (⟨"CountedObjects", "wordsOf", "(I)I"⟩, 8) := ⟨⟨by decide +kernel, by decide +kernel⟩, List.mem_of_getElem? (i := 14) (by decide +kernel), List.mem_of_getElem? (i := 99) (by decide +kernel), List.mem_of_getElem? (i := 100) (by decide +kernel)⟩
theorem lw_p6 : lw_okq (⟨"CountedObjects", "freeEntry", "(I)V"⟩, 8) := ⟨⟨by decide +kernel, by decide +kernel⟩, List.mem_of_getElem? (i := 14) (by decide +kernel), List.mem_of_getElem? (i := 103) (by decide +kernel), List.mem_of_getElem? (i := 104) (by decide +kernel)⟩
theorem lw_p7 : lw_okq (⟨"CountedObjects", "countAnew", "()V"⟩, 8) := ⟨⟨by decide +kernel, by decide +kernel⟩, List.mem_of_getElem? (i := 14) (by decide +kernel), List.mem_of_getElem? (i := 111) (by decide +kernel), List.mem_of_getElem? (i := 112) (by decide +kernel)⟩
theorem lw_p8 : lw_okq (⟨"CountedObjects", "addReference", "(I)V"⟩, 8) := ⟨⟨by decide +kernel, by decide +kernel⟩, List.mem_of_getElem? (i := 14) (by decide +kernel), List.mem_of_getElem? (i := 115) (by decide +kernel), List.mem_of_getElem? (i := 116) (by decide +kernel)⟩
theorem lw_p9 : lw_okq (⟨"CountedObjects", "moveTogether", "()I"⟩, 8) := ⟨⟨by decide +kernel, by decide +kernel⟩, List.mem_of_getElem? (i := 14) (by decide +kernel), List.mem_of_getElem? (i := 123) (by decide +kernel), List.mem_of_getElem? (i := 124) (by decide +kernel)⟩
theorem lw_p10 : lw_okq (⟨"CountedObjects", "lowestFrom", "(I)I"⟩, 8) := ⟨⟨by decide +kernel, by decide +kernel⟩, List.mem_of_getElem? (i := 14) (by decide +kernel), List.mem_of_getElem? (i := 127) (by decide +kernel), List.mem_of_getElem? (i := 128) (by decide +kernel)⟩
theorem lw_p11 : lw_okq (⟨"java/lang/Throwable", "fillInStackTrace", "(I)Ljava/lang/Throwable;"⟩, 6) := ⟨⟨by decide +kernel, by decide +kernel⟩, List.mem_of_getElem? (i := 224) (by decide +kernel), List.mem_of_getElem? (i := 222) (by decide +kernel), List.mem_of_getElem? (i := 223) (by decide +kernel)⟩
theorem lw_p12 : lw_okq (⟨"CountedObjects", "isValue", "(I)Z"⟩, 8) := ⟨⟨by decide +kernel, by decide +kernel⟩, List.mem_of_getElem? (i := 14) (by decide +kernel), List.mem_of_getElem? (i := 249) (by decide +kernel), List.mem_of_getElem? (i := 250) (by decide +kernel)⟩
theorem lw_p13 : lw_okq (⟨"CountedObjects", "findRoom", "(II)I"⟩, 8) := ⟨⟨by decide +kernel, by decide +kernel⟩, List.mem_of_getElem? (i := 14) (by decide +kernel), List.mem_of_getElem? (i := 268) (by decide +kernel), List.mem_of_getElem? (i := 269) (by decide +kernel)⟩
theorem lw_p14 : lw_okq (⟨"CountedObjects", "leastFreeEntry", "()I"⟩, 8) := ⟨⟨by decide +kernel, by decide +kernel⟩, List.mem_of_getElem? (i := 14) (by decide +kernel), List.mem_of_getElem? (i := 272) (by decide +kernel), List.mem_of_getElem? (i := 273) (by decide +kernel)⟩
theorem lw_p15 : lw_okq (⟨"CountedObjects", "place", "(I)I"⟩, 8) := ⟨⟨by decide +kernel, by decide +kernel⟩, List.mem_of_getElem? (i := 14) (by decide +kernel), List.mem_of_getElem? (i := 276) (by decide +kernel), List.mem_of_getElem? (i := 277) (by decide +kernel)⟩
def lw_privs_1 : List (MethodName × Nat) := [(⟨"CountedObjects", "takeUnreached", "(I)I"⟩, 8), (⟨"CountedObjects", "findReached", "(I)V"⟩, 8), (⟨"CountedObjects", "reach", "(I)V"⟩, 8), (⟨"CountedObjects", "isObject", "(I)Z"⟩, 8), (⟨"CountedObjects", "isUsed", "(I)Z"⟩, 8), (⟨"CountedObjects", "wordsOf", "(I)I"⟩, 8), (⟨"CountedObjects", "freeEntry", "(I)V"⟩, 8), (⟨"CountedObjects", "countAnew", "()V"⟩, 8), (⟨"CountedObjects", "addReference", "(I)V"⟩, 8), (⟨"CountedObjects", "moveTogether", "()I"⟩, 8), (⟨"CountedObjects", "lowestFrom", "(I)I"⟩, 8), (⟨"java/lang/Throwable", "fillInStackTrace", "(I)Ljava/lang/Throwable;"⟩, 6), (⟨"CountedObjects", "isValue", "(I)Z"⟩, 8), (⟨"CountedObjects", "findRoom", "(II)I"⟩, 8), (⟨"CountedObjects", "leastFreeEntry", "()I"⟩, 8), (⟨"CountedObjects", "place", "(I)I"⟩, 8)]
theorem lw_r1 : ∀ q ∈ lw_privs_1, lw_okq q := List.forall_mem_cons.mpr ⟨lw_p0, List.forall_mem_cons.mpr ⟨lw_p1, List.forall_mem_cons.mpr ⟨lw_p2, List.forall_mem_cons.mpr ⟨lw_p3, List.forall_mem_cons.mpr ⟨lw_p4, List.forall_mem_cons.mpr ⟨lw_p5, List.forall_mem_cons.mpr ⟨lw_p6, List.forall_mem_cons.mpr ⟨lw_p7, List.forall_mem_cons.mpr ⟨lw_p8, List.forall_mem_cons.mpr ⟨lw_p9, List.forall_mem_cons.mpr ⟨lw_p10, List.forall_mem_cons.mpr ⟨lw_p11, List.forall_mem_cons.mpr ⟨lw_p12, List.forall_mem_cons.mpr ⟨lw_p13, List.forall_mem_cons.mpr ⟨lw_p14, List.forall_mem_cons.mpr ⟨lw_p15, fun _ h => absurd h List.not_mem_nil⟩⟩⟩⟩⟩⟩⟩⟩⟩⟩⟩⟩⟩⟩⟩⟩
theorem lw_p16 : lw_okq (⟨"CountedObjects$FreeChunks", "bestFor", "(I)I"⟩, 3) := ⟨⟨by decide +kernel, by decide +kernel⟩, List.mem_of_getElem? (i := 28) (by decide +kernel), List.mem_of_getElem? (i := 284) (by decide +kernel), List.mem_of_getElem? (i := 285) (by decide +kernel)⟩
theorem lw_p17 : lw_okq (⟨"CountedObjects$FreeChunks", "remove", "(I)V"⟩, 3) := ⟨⟨by decide +kernel, by decide +kernel⟩, List.mem_of_getElem? (i := 28) (by decide +kernel), List.mem_of_getElem? (i := 288) (by decide +kernel), List.mem_of_getElem? (i := 289) (by decide +kernel)⟩
theorem lw_p18 : lw_okq (⟨"CountedObjects", "makeObject", "(IIII)V"⟩, 8) := ⟨⟨by decide +kernel, by decide +kernel⟩, List.mem_of_getElem? (i := 14) (by decide +kernel), List.mem_of_getElem? (i := 309) (by decide +kernel), List.mem_of_getElem? (i := 310) (by decide +kernel)⟩
theorem lw_p19 : lw_okq (⟨"CountedObjects", "replaceRegister", "(II)I"⟩, 8) := ⟨⟨by decide +kernel, by decide +kernel⟩, List.mem_of_getElem? (i := 14) (by decide +kernel), List.mem_of_getElem? (i := 313) (by decide +kernel), List.mem_of_getElem? (i := 314) (by decide +kernel)⟩
theorem lw_p20 : lw_okq (⟨"CountedObjects", "dropReference", "(II)V"⟩, 8) := ⟨⟨by decide +kernel, by decide +kernel⟩, List.mem_of_getElem? (i := 14) (by decide +kernel), List.mem_of_getElem? (i := 317) (by decide +kernel), List.mem_of_getElem? (i := 318) (by decide +kernel)⟩
theorem lw_p21 : lw_okq (⟨"CountedObjects", "letGo", "(II)V"⟩, 8) := ⟨⟨by decide +kernel, by decide +kernel⟩, List.mem_of_getElem? (i := 14) (by decide +kernel), List.mem_of_getElem? (i := 321) (by decide +kernel), List.mem_of_getElem? (i := 322) (by decide +kernel)⟩
theorem lw_p22 : lw_okq (⟨"CountedObjects", "hasField", "(II)Z"⟩, 8) := ⟨⟨by decide +kernel, by decide +kernel⟩, List.mem_of_getElem? (i := 14) (by decide +kernel), List.mem_of_getElem? (i := 346) (by decide +kernel), List.mem_of_getElem? (i := 347) (by decide +kernel)⟩
theorem lw_p23 : lw_okq (⟨"CountedObjects", "fieldWord", "(II)I"⟩, 8) := ⟨⟨by decide +kernel, by decide +kernel⟩, List.mem_of_getElem? (i := 14) (by decide +kernel), List.mem_of_getElem? (i := 350) (by decide +kernel), List.mem_of_getElem? (i := 351) (by decide +kernel)⟩
theorem lw_p24 : lw_okq (⟨"CountedObjectsModel", "give", "(II)V"⟩, 18) := ⟨⟨by decide +kernel, by decide +kernel⟩, List.mem_of_getElem? (i := 382) (by decide +kernel), List.mem_of_getElem? (i := 388) (by decide +kernel), List.mem_of_getElem? (i := 389) (by decide +kernel)⟩
theorem lw_p25 : lw_okq (⟨"CountedObjectsModel", "isValue", "(I)Z"⟩, 18) := ⟨⟨by decide +kernel, by decide +kernel⟩, List.mem_of_getElem? (i := 382) (by decide +kernel), List.mem_of_getElem? (i := 458) (by decide +kernel), List.mem_of_getElem? (i := 459) (by decide +kernel)⟩
theorem lw_p26 : lw_okq (⟨"CountedObjectsModel", "isObject", "(I)Z"⟩, 18) := ⟨⟨by decide +kernel, by decide +kernel⟩, List.mem_of_getElem? (i := 382) (by decide +kernel), List.mem_of_getElem? (i := 465) (by decide +kernel), List.mem_of_getElem? (i := 466) (by decide +kernel)⟩
theorem lw_p27 : lw_okq (⟨"CountedObjectsModel", "freeEntry", "()I"⟩, 18) := ⟨⟨by decide +kernel, by decide +kernel⟩, List.mem_of_getElem? (i := 382) (by decide +kernel), List.mem_of_getElem? (i := 469) (by decide +kernel), List.mem_of_getElem? (i := 470) (by decide +kernel)⟩
theorem lw_p28 : lw_okq (⟨"CountedObjectsModel", "gather", "(I)I"⟩, 18) := ⟨⟨by decide +kernel, by decide +kernel⟩, List.mem_of_getElem? (i := 382) (by decide +kernel), List.mem_of_getElem? (i := 473) (by decide +kernel), List.mem_of_getElem? (i := 474) (by decide +kernel)⟩
theorem lw_p29 : lw_okq (⟨"CountedObjectsModel", "reach", "(I)Z"⟩, 18) := ⟨⟨by decide +kernel, by decide +kernel⟩, List.mem_of_getElem? (i := 382) (by decide +kernel), List.mem_of_getElem? (i := 477) (by decide +kernel), List.mem_of_getElem? (i := 478) (by decide +kernel)⟩
theorem lw_p30 : lw_okq (⟨"CountedObjectsModel", "spread", "(I)Z"⟩, 18) := ⟨⟨by decide +kernel, by decide +kernel⟩, List.mem_of_getElem? (i := 382) (by decide +kernel), List.mem_of_getElem? (i := 481) (by decide +kernel), List.mem_of_getElem? (i := 482) (by decide +kernel)⟩
theorem lw_p31 : lw_okq (⟨"CountedObjectsModel", "takeAway", "(I)V"⟩, 18) := ⟨⟨by decide +kernel, by decide +kernel⟩, List.mem_of_getElem? (i := 382) (by decide +kernel), List.mem_of_getElem? (i := 485) (by decide +kernel), List.mem_of_getElem? (i := 486) (by decide +kernel)⟩
def lw_privs_2 : List (MethodName × Nat) := [(⟨"CountedObjects$FreeChunks", "bestFor", "(I)I"⟩, 3), (⟨"CountedObjects$FreeChunks", "remove", "(I)V"⟩, 3), (⟨"CountedObjects", "makeObject", "(IIII)V"⟩, 8), (⟨"CountedObjects", "replaceRegister", "(II)I"⟩, 8), (⟨"CountedObjects", "dropReference", "(II)V"⟩, 8), (⟨"CountedObjects", "letGo", "(II)V"⟩, 8), (⟨"CountedObjects", "hasField", "(II)Z"⟩, 8), (⟨"CountedObjects", "fieldWord", "(II)I"⟩, 8), (⟨"CountedObjectsModel", "give", "(II)V"⟩, 18), (⟨"CountedObjectsModel", "isValue", "(I)Z"⟩, 18), (⟨"CountedObjectsModel", "isObject", "(I)Z"⟩, 18), (⟨"CountedObjectsModel", "freeEntry", "()I"⟩, 18), (⟨"CountedObjectsModel", "gather", "(I)I"⟩, 18), (⟨"CountedObjectsModel", "reach", "(I)Z"⟩, 18), (⟨"CountedObjectsModel", "spread", "(I)Z"⟩, 18), (⟨"CountedObjectsModel", "takeAway", "(I)V"⟩, 18)]
theorem lw_r2 : ∀ q ∈ lw_privs_2, lw_okq q := List.forall_mem_cons.mpr ⟨lw_p16, List.forall_mem_cons.mpr ⟨lw_p17, List.forall_mem_cons.mpr ⟨lw_p18, List.forall_mem_cons.mpr ⟨lw_p19, List.forall_mem_cons.mpr ⟨lw_p20, List.forall_mem_cons.mpr ⟨lw_p21, List.forall_mem_cons.mpr ⟨lw_p22, List.forall_mem_cons.mpr ⟨lw_p23, List.forall_mem_cons.mpr ⟨lw_p24, List.forall_mem_cons.mpr ⟨lw_p25, List.forall_mem_cons.mpr ⟨lw_p26, List.forall_mem_cons.mpr ⟨lw_p27, List.forall_mem_cons.mpr ⟨lw_p28, List.forall_mem_cons.mpr ⟨lw_p29, List.forall_mem_cons.mpr ⟨lw_p30, List.forall_mem_cons.mpr ⟨lw_p31, fun _ h => absurd h List.not_mem_nil⟩⟩⟩⟩⟩⟩⟩⟩⟩⟩⟩⟩⟩⟩⟩⟩
theorem lw_p32 : lw_okq (⟨"CountedObjectsModel", "comes", "(I)V"⟩, 18) := ⟨⟨by decide +kernel, by decide +kernel⟩, List.mem_of_getElem? (i := 382) (by decide +kernel), List.mem_of_getElem? (i := 489) (by decide +kernel), List.mem_of_getElem? (i := 490) (by decide +kernel)⟩
theorem lw_p33 : lw_okq (⟨"CountedObjectsModel", "place", "(I)I"⟩, 18) := ⟨⟨by decide +kernel, by decide +kernel⟩, List.mem_of_getElem? (i := 382) (by decide +kernel), List.mem_of_getElem? (i := 493) (by decide +kernel), List.mem_of_getElem? (i := 494) (by decide +kernel)⟩
theorem lw_p34 : lw_okq (⟨"CountedObjectsModel", "fitting", "(I)I"⟩, 18) := ⟨⟨by decide +kernel, by decide +kernel⟩, List.mem_of_getElem? (i := 382) (by decide +kernel), List.mem_of_getElem? (i := 497) (by decide +kernel), List.mem_of_getElem? (i := 498) (by decide +kernel)⟩
theorem lw_p35 : lw_okq (⟨"CountedObjectsModel", "freeWords", "()I"⟩, 18) := ⟨⟨by decide +kernel, by decide +kernel⟩, List.mem_of_getElem? (i := 382) (by decide +kernel), List.mem_of_getElem? (i := 501) (by decide +kernel), List.mem_of_getElem? (i := 502) (by decide +kernel)⟩
theorem lw_p36 : lw_okq (⟨"CountedObjectsModel", "pack", "()I"⟩, 18) := ⟨⟨by decide +kernel, by decide +kernel⟩, List.mem_of_getElem? (i := 382) (by decide +kernel), List.mem_of_getElem? (i := 505) (by decide +kernel), List.mem_of_getElem? (i := 506) (by decide +kernel)⟩
theorem lw_p37 : lw_okq (⟨"CountedObjectsModel", "replace", "(II)I"⟩, 18) := ⟨⟨by decide +kernel, by decide +kernel⟩, List.mem_of_getElem? (i := 382) (by decide +kernel), List.mem_of_getElem? (i := 509) (by decide +kernel), List.mem_of_getElem? (i := 510) (by decide +kernel)⟩
theorem lw_p38 : lw_okq (⟨"CountedObjectsModel", "leaves", "(I)V"⟩, 18) := ⟨⟨by decide +kernel, by decide +kernel⟩, List.mem_of_getElem? (i := 382) (by decide +kernel), List.mem_of_getElem? (i := 513) (by decide +kernel), List.mem_of_getElem? (i := 514) (by decide +kernel)⟩
theorem lw_p39 : lw_okq (⟨"CountedObjectsModel", "less", "(I)V"⟩, 18) := ⟨⟨by decide +kernel, by decide +kernel⟩, List.mem_of_getElem? (i := 382) (by decide +kernel), List.mem_of_getElem? (i := 517) (by decide +kernel), List.mem_of_getElem? (i := 518) (by decide +kernel)⟩
theorem lw_p40 : lw_okq (⟨"CountedObjectsModel", "hasField", "(II)Z"⟩, 18) := ⟨⟨by decide +kernel, by decide +kernel⟩, List.mem_of_getElem? (i := 382) (by decide +kernel), List.mem_of_getElem? (i := 533) (by decide +kernel), List.mem_of_getElem? (i := 534) (by decide +kernel)⟩
def lw_privs_3 : List (MethodName × Nat) := [(⟨"CountedObjectsModel", "comes", "(I)V"⟩, 18), (⟨"CountedObjectsModel", "place", "(I)I"⟩, 18), (⟨"CountedObjectsModel", "fitting", "(I)I"⟩, 18), (⟨"CountedObjectsModel", "freeWords", "()I"⟩, 18), (⟨"CountedObjectsModel", "pack", "()I"⟩, 18), (⟨"CountedObjectsModel", "replace", "(II)I"⟩, 18), (⟨"CountedObjectsModel", "leaves", "(I)V"⟩, 18), (⟨"CountedObjectsModel", "less", "(I)V"⟩, 18), (⟨"CountedObjectsModel", "hasField", "(II)Z"⟩, 18)]
theorem lw_r3 : ∀ q ∈ lw_privs_3, lw_okq q := List.forall_mem_cons.mpr ⟨lw_p32, List.forall_mem_cons.mpr ⟨lw_p33, List.forall_mem_cons.mpr ⟨lw_p34, List.forall_mem_cons.mpr ⟨lw_p35, List.forall_mem_cons.mpr ⟨lw_p36, List.forall_mem_cons.mpr ⟨lw_p37, List.forall_mem_cons.mpr ⟨lw_p38, List.forall_mem_cons.mpr ⟨lw_p39, List.forall_mem_cons.mpr ⟨lw_p40, fun _ h => absurd h List.not_mem_nil⟩⟩⟩⟩⟩⟩⟩⟩⟩
def lw_privs : List (MethodName × Nat) := lw_privs_1 ++ (lw_privs_2 ++ (lw_privs_3))
def lw_tbl : List Cond := k2_sels lw_privs ++ tables_1
theorem lw_privs_ok : ∀ q ∈ lw_privs, lw_okq q := by
  show ∀ q ∈ lw_privs_1 ++ (lw_privs_2 ++ (lw_privs_3)), lw_okq q
  exact List.forall_mem_append.mpr ⟨lw_r1, List.forall_mem_append.mpr ⟨lw_r2, lw_r3⟩⟩
end
section
/-! Names: the classes, their fields, their methods, the words of the tables by their places. -/
def RX : String := "CountedObjects"
def RF : String := "CountedObjects$FreeChunks"
def RM : String := "CountedObjectsModel"
def RL : String := "CountedObjectsLaw"
def TX : u_T := fun k => match k with
  | 0 => ("CountedObjects", "words", "[I", true)
  | 1 => ("CountedObjects", "addresses", "[I", true)
  | 2 => ("CountedObjects", "counts", "[I", true)
  | 3 => ("CountedObjects", "registers", "[I", true)
  | 4 => ("CountedObjects", "freeChunks", "LCountedObjects$FreeChunks;", true)
  | 5 => ("CountedObjects", "isReached", "[Z", true)
  | 6 => ("CountedObjects", "reachedEntries", "[I", true)
  | _ => ("CountedObjects", "reachedHeld", "I", false)
def tyX : Nat → FieldType := fun k => match k with
  | 0 => .array .int
  | 1 => .array .int
  | 2 => .array .int
  | 3 => .array .int
  | 4 => .object "CountedObjects$FreeChunks"
  | 5 => .array .boolean
  | 6 => .array .int
  | _ => .int
theorem nmX : ∀ a, a < 8 → ∀ b, b < 8 → a ≠ b → (TX a).2.1 ≠ (TX b).2.1 := by decide +kernel
theorem tyX_ok : ∀ k, k < 8 → parseFieldDescriptor (TX k).2.2.1 = some (tyX k) := by decide +kernel
def TF : u_T := fun k => match k with
  | 0 => ("CountedObjects$FreeChunks", "starts", "[I", true)
  | 1 => ("CountedObjects$FreeChunks", "sizes", "[I", true)
  | _ => ("CountedObjects$FreeChunks", "held", "I", false)
def tyF : Nat → FieldType := fun k => match k with
  | 0 => .array .int
  | 1 => .array .int
  | _ => .int
theorem nmF : ∀ a, a < 3 → ∀ b, b < 3 → a ≠ b → (TF a).2.1 ≠ (TF b).2.1 := by decide +kernel
theorem tyF_ok : ∀ k, k < 3 → parseFieldDescriptor (TF k).2.2.1 = some (tyF k) := by decide +kernel
def TM : u_T := fun k => match k with
  | 0 => ("CountedObjectsModel", "thrown", "I", false)
  | 1 => ("CountedObjectsModel", "words", "I", true)
  | 2 => ("CountedObjectsModel", "entries", "I", true)
  | 3 => ("CountedObjectsModel", "registers", "[I", true)
  | 4 => ("CountedObjectsModel", "lives", "[Z", true)
  | 5 => ("CountedObjectsModel", "addresses", "[I", true)
  | 6 => ("CountedObjectsModel", "sizes", "[I", true)
  | 7 => ("CountedObjectsModel", "counts", "[I", true)
  | 8 => ("CountedObjectsModel", "word", "[I", true)
  | 9 => ("CountedObjectsModel", "frees", "I", false)
  | 10 => ("CountedObjectsModel", "begins", "[I", true)
  | 11 => ("CountedObjectsModel", "lengths", "[I", true)
  | 12 => ("CountedObjectsModel", "came", "[I", true)
  | 13 => ("CountedObjectsModel", "clock", "I", false)
  | 14 => ("CountedObjectsModel", "going", "I", false)
  | 15 => ("CountedObjectsModel", "goes", "[I", true)
  | 16 => ("CountedObjectsModel", "next", "[I", true)
  | _ => ("CountedObjectsModel", "reached", "[Z", true)
def tyM : Nat → FieldType := fun k => match k with
  | 0 => .int
  | 1 => .int
  | 2 => .int
  | 3 => .array .int
  | 4 => .array .boolean
  | 5 => .array .int
  | 6 => .array .int
  | 7 => .array .int
  | 8 => .array .int
  | 9 => .int
  | 10 => .array .int
  | 11 => .array .int
  | 12 => .array .int
  | 13 => .int
  | 14 => .int
  | 15 => .array .int
  | 16 => .array .int
  | _ => .array .boolean
theorem nmM : ∀ a, a < 18 → ∀ b, b < 18 → a ≠ b → (TM a).2.1 ≠ (TM b).2.1 := by decide +kernel
theorem tyM_ok : ∀ k, k < 18 → parseFieldDescriptor (TM k).2.2.1 = some (tyM k) := by decide +kernel
abbrev cX_init : ByteArray := prog_1_method_1_code
def yX_init : MethodName := ⟨RX, "<init>", "(II)V"⟩
abbrev cF_init : ByteArray := prog_2_method_1_code
def yF_init : MethodName := ⟨RF, "<init>", "(I)V"⟩
abbrev cX_collect : ByteArray := prog_1_method_10_code
def yX_collect : MethodName := ⟨RX, "collect", "()I"⟩
abbrev cX_takeUnreached : ByteArray := prog_1_method_36_code
def yX_takeUnreached : MethodName := ⟨RX, "takeUnreached", "(I)I"⟩
abbrev cX_findReached : ByteArray := prog_1_method_37_code
def yX_findReached : MethodName := ⟨RX, "findReached", "(I)V"⟩
abbrev cX_reach : ByteArray := prog_1_method_38_code
def yX_reach : MethodName := ⟨RX, "reach", "(I)V"⟩
abbrev cX_isObject : ByteArray := prog_1_method_20_code
def yX_isObject : MethodName := ⟨RX, "isObject", "(I)Z"⟩
abbrev cX_isUsed : ByteArray := prog_1_method_19_code
def yX_isUsed : MethodName := ⟨RX, "isUsed", "(I)Z"⟩
abbrev cX_wordsOf : ByteArray := prog_1_method_24_code
def yX_wordsOf : MethodName := ⟨RX, "wordsOf", "(I)I"⟩
abbrev cX_freeEntry : ByteArray := prog_1_method_31_code
def yX_freeEntry : MethodName := ⟨RX, "freeEntry", "(I)V"⟩
abbrev cF_add : ByteArray := prog_2_method_2_code
def yF_add : MethodName := ⟨RF, "add", "(II)V"⟩
abbrev cX_countAnew : ByteArray := prog_1_method_39_code
def yX_countAnew : MethodName := ⟨RX, "countAnew", "()V"⟩
abbrev cX_addReference : ByteArray := prog_1_method_28_code
def yX_addReference : MethodName := ⟨RX, "addReference", "(I)V"⟩
abbrev cX_compact : ByteArray := prog_1_method_11_code
def yX_compact : MethodName := ⟨RX, "compact", "()I"⟩
abbrev cX_moveTogether : ByteArray := prog_1_method_34_code
def yX_moveTogether : MethodName := ⟨RX, "moveTogether", "()I"⟩
abbrev cX_lowestFrom : ByteArray := prog_1_method_35_code
def yX_lowestFrom : MethodName := ⟨RX, "lowestFrom", "(I)I"⟩
abbrev cF_clear : ByteArray := prog_2_method_3_code
def yF_clear : MethodName := ⟨RF, "clear", "()V"⟩
abbrev cX_exists : ByteArray := prog_1_method_12_code
def yX_exists : MethodName := ⟨RX, "exists", "(I)Z"⟩
abbrev cX_count : ByteArray := prog_1_method_13_code
def yX_count : MethodName := ⟨RX, "count", "(I)I"⟩
abbrev cX_address : ByteArray := prog_1_method_14_code
def yX_address : MethodName := ⟨RX, "address", "(I)I"⟩
abbrev cX_chunks : ByteArray := prog_1_method_15_code
def yX_chunks : MethodName := ⟨RX, "chunks", "(I)I"⟩
abbrev cF_ofSize : ByteArray := prog_2_method_7_code
def yF_ofSize : MethodName := ⟨RF, "ofSize", "(I)I"⟩
abbrev cX_free : ByteArray := prog_1_method_16_code
def yX_free : MethodName := ⟨RX, "free", "()I"⟩
abbrev cF_allWords : ByteArray := prog_2_method_8_code
def yF_allWords : MethodName := ⟨RF, "allWords", "()I"⟩
abbrev cX_objects : ByteArray := prog_1_method_17_code
def yX_objects : MethodName := ⟨RX, "objects", "()I"⟩
abbrev cL_cell : ByteArray := method_2_code
def yL_cell : MethodName := ⟨RL, "cell", "([II)I"⟩
abbrev cL_instantiate : ByteArray := method_3_code
def yL_instantiate : MethodName := ⟨RL, "instantiate", "(LCountedObjects;III[J)I"⟩
abbrev cX_instantiate : ByteArray := prog_1_method_2_code
def yX_instantiate : MethodName := ⟨RX, "instantiate", "(III)I"⟩
abbrev cX_isRegister : ByteArray := prog_1_method_18_code
def yX_isRegister : MethodName := ⟨RX, "isRegister", "(I)Z"⟩
abbrev cX_isValue : ByteArray := prog_1_method_21_code
def yX_isValue : MethodName := ⟨RX, "isValue", "(I)Z"⟩
abbrev cX_findRoom : ByteArray := prog_1_method_32_code
def yX_findRoom : MethodName := ⟨RX, "findRoom", "(II)I"⟩
abbrev cX_leastFreeEntry : ByteArray := prog_1_method_25_code
def yX_leastFreeEntry : MethodName := ⟨RX, "leastFreeEntry", "()I"⟩
abbrev cX_place : ByteArray := prog_1_method_33_code
def yX_place : MethodName := ⟨RX, "place", "(I)I"⟩
abbrev cF_take : ByteArray := prog_2_method_4_code
def yF_take : MethodName := ⟨RF, "take", "(I)I"⟩
abbrev cF_bestFor : ByteArray := prog_2_method_5_code
def yF_bestFor : MethodName := ⟨RF, "bestFor", "(I)I"⟩
abbrev cF_remove : ByteArray := prog_2_method_6_code
def yF_remove : MethodName := ⟨RF, "remove", "(I)V"⟩
abbrev cX_makeObject : ByteArray := prog_1_method_26_code
def yX_makeObject : MethodName := ⟨RX, "makeObject", "(IIII)V"⟩
abbrev cX_replaceRegister : ByteArray := prog_1_method_27_code
def yX_replaceRegister : MethodName := ⟨RX, "replaceRegister", "(II)I"⟩
abbrev cX_dropReference : ByteArray := prog_1_method_29_code
def yX_dropReference : MethodName := ⟨RX, "dropReference", "(II)V"⟩
abbrev cX_letGo : ByteArray := prog_1_method_30_code
def yX_letGo : MethodName := ⟨RX, "letGo", "(II)V"⟩
abbrev cL_set : ByteArray := method_4_code
def yL_set : MethodName := ⟨RL, "set", "(LCountedObjects;II[J)I"⟩
abbrev cX_set : ByteArray := prog_1_method_3_code
def yX_set : MethodName := ⟨RX, "set", "(II)I"⟩
abbrev cL_register : ByteArray := method_5_code
def yL_register : MethodName := ⟨RL, "register", "(LCountedObjects;I[J)I"⟩
abbrev cX_register : ByteArray := prog_1_method_4_code
def yX_register : MethodName := ⟨RX, "register", "(I)I"⟩
abbrev cL_fetch : ByteArray := method_6_code
def yL_fetch : MethodName := ⟨RL, "fetch", "(LCountedObjects;II[J)I"⟩
abbrev cX_fetch : ByteArray := prog_1_method_5_code
def yX_fetch : MethodName := ⟨RX, "fetch", "(II)I"⟩
abbrev cX_hasField : ByteArray := prog_1_method_22_code
def yX_hasField : MethodName := ⟨RX, "hasField", "(II)Z"⟩
abbrev cX_fieldWord : ByteArray := prog_1_method_23_code
def yX_fieldWord : MethodName := ⟨RX, "fieldWord", "(II)I"⟩
abbrev cL_store : ByteArray := method_7_code
def yL_store : MethodName := ⟨RL, "store", "(LCountedObjects;III[J)I"⟩
abbrev cX_store : ByteArray := prog_1_method_6_code
def yX_store : MethodName := ⟨RX, "store", "(III)I"⟩
abbrev cL_type : ByteArray := method_8_code
def yL_type : MethodName := ⟨RL, "type", "(LCountedObjects;I[J)I"⟩
abbrev cX_type : ByteArray := prog_1_method_7_code
def yX_type : MethodName := ⟨RX, "type", "(I)I"⟩
abbrev cL_fields : ByteArray := method_9_code
def yL_fields : MethodName := ⟨RL, "fields", "(LCountedObjects;I[J)I"⟩
abbrev cX_fields : ByteArray := prog_1_method_8_code
def yX_fields : MethodName := ⟨RX, "fields", "(I)I"⟩
abbrev cL_become : ByteArray := method_10_code
def yL_become : MethodName := ⟨RL, "become", "(LCountedObjects;II)I"⟩
abbrev cX_become : ByteArray := prog_1_method_9_code
def yX_become : MethodName := ⟨RX, "become", "(II)V"⟩
abbrev cM_init : ByteArray := prog_4_method_1_code
def yM_init : MethodName := ⟨RM, "<init>", "(II)V"⟩
abbrev cM_give : ByteArray := prog_4_method_7_code
def yM_give : MethodName := ⟨RM, "give", "(II)V"⟩
abbrev cM_thrown : ByteArray := prog_4_method_2_code
def yM_thrown : MethodName := ⟨RM, "thrown", "()I"⟩
abbrev cM_instantiate : ByteArray := prog_4_method_21_code
def yM_instantiate : MethodName := ⟨RM, "instantiate", "(III)I"⟩
abbrev cM_isRegister : ByteArray := prog_4_method_6_code
def yM_isRegister : MethodName := ⟨RM, "isRegister", "(I)Z"⟩
abbrev cM_isValue : ByteArray := prog_4_method_5_code
def yM_isValue : MethodName := ⟨RM, "isValue", "(I)Z"⟩
abbrev cM_leads : ByteArray := prog_4_method_3_code
def yM_leads : MethodName := ⟨RM, "leads", "(I)Z"⟩
abbrev cM_isObject : ByteArray := prog_4_method_4_code
def yM_isObject : MethodName := ⟨RM, "isObject", "(I)Z"⟩
abbrev cM_freeEntry : ByteArray := prog_4_method_20_code
def yM_freeEntry : MethodName := ⟨RM, "freeEntry", "()I"⟩
abbrev cM_gather : ByteArray := prog_4_method_19_code
def yM_gather : MethodName := ⟨RM, "gather", "(I)I"⟩
abbrev cM_reach : ByteArray := prog_4_method_17_code
def yM_reach : MethodName := ⟨RM, "reach", "(I)Z"⟩
abbrev cM_spread : ByteArray := prog_4_method_18_code
def yM_spread : MethodName := ⟨RM, "spread", "(I)Z"⟩
abbrev cM_takeAway : ByteArray := prog_4_method_14_code
def yM_takeAway : MethodName := ⟨RM, "takeAway", "(I)V"⟩
abbrev cM_comes : ByteArray := prog_4_method_12_code
def yM_comes : MethodName := ⟨RM, "comes", "(I)V"⟩
abbrev cM_place : ByteArray := prog_4_method_11_code
def yM_place : MethodName := ⟨RM, "place", "(I)I"⟩
abbrev cM_fitting : ByteArray := prog_4_method_9_code
def yM_fitting : MethodName := ⟨RM, "fitting", "(I)I"⟩
abbrev cM_freeWords : ByteArray := prog_4_method_8_code
def yM_freeWords : MethodName := ⟨RM, "freeWords", "()I"⟩
abbrev cM_pack : ByteArray := prog_4_method_10_code
def yM_pack : MethodName := ⟨RM, "pack", "()I"⟩
abbrev cM_replace : ByteArray := prog_4_method_16_code
def yM_replace : MethodName := ⟨RM, "replace", "(II)I"⟩
abbrev cM_leaves : ByteArray := prog_4_method_15_code
def yM_leaves : MethodName := ⟨RM, "leaves", "(I)V"⟩
abbrev cM_less : ByteArray := prog_4_method_13_code
def yM_less : MethodName := ⟨RM, "less", "(I)V"⟩
abbrev cM_set : ByteArray := prog_4_method_22_code
def yM_set : MethodName := ⟨RM, "set", "(II)I"⟩
abbrev cM_register : ByteArray := prog_4_method_23_code
def yM_register : MethodName := ⟨RM, "register", "(I)I"⟩
abbrev cM_fetch : ByteArray := prog_4_method_25_code
def yM_fetch : MethodName := ⟨RM, "fetch", "(II)I"⟩
abbrev cM_hasField : ByteArray := prog_4_method_24_code
def yM_hasField : MethodName := ⟨RM, "hasField", "(II)Z"⟩
abbrev cM_store : ByteArray := prog_4_method_26_code
def yM_store : MethodName := ⟨RM, "store", "(III)I"⟩
abbrev cM_type : ByteArray := prog_4_method_27_code
def yM_type : MethodName := ⟨RM, "type", "(I)I"⟩
abbrev cM_fields : ByteArray := prog_4_method_28_code
def yM_fields : MethodName := ⟨RM, "fields", "(I)I"⟩
abbrev cM_become : ByteArray := prog_4_method_29_code
def yM_become : MethodName := ⟨RM, "become", "(II)V"⟩
abbrev cM_collect : ByteArray := prog_4_method_30_code
def yM_collect : MethodName := ⟨RM, "collect", "()I"⟩
abbrev cM_compact : ByteArray := prog_4_method_31_code
def yM_compact : MethodName := ⟨RM, "compact", "()I"⟩
abbrev cM_exists : ByteArray := prog_4_method_32_code
def yM_exists : MethodName := ⟨RM, "exists", "(I)Z"⟩
abbrev cM_count : ByteArray := prog_4_method_33_code
def yM_count : MethodName := ⟨RM, "count", "(I)I"⟩
abbrev cM_address : ByteArray := prog_4_method_34_code
def yM_address : MethodName := ⟨RM, "address", "(I)I"⟩
abbrev cM_chunks : ByteArray := prog_4_method_35_code
def yM_chunks : MethodName := ⟨RM, "chunks", "(I)I"⟩
abbrev cM_free : ByteArray := prog_4_method_36_code
def yM_free : MethodName := ⟨RM, "free", "()I"⟩
abbrev cM_objects : ByteArray := prog_4_method_37_code
def yM_objects : MethodName := ⟨RM, "objects", "()I"⟩
abbrev gx_cl : List vw_C := [(RX, TX, 8), (RF, TF, 3), (RM, TM, 18)]
/-- the good words of the tables -/
def wsA : List Cond := lw_tbl.filter goodWord
theorem wsA_good : ∀ w ∈ wsA, goodWord w = true := fun w h => (List.mem_filter.mp h).2
theorem wsA_tbl : ∀ w ∈ wsA, w ∈ lw_tbl := fun w h => (List.mem_filter.mp h).1
theorem wsA_in {w : Cond} {i : Nat} (h : tables_1[i]? = some w) (hg : goodWord w = true) : w ∈ wsA := List.mem_filter.mpr ⟨List.mem_append_right _ (List.mem_of_getElem? h), hg⟩
theorem wsA_sel {w : Cond} (h : w ∈ k2_sels lw_privs) (hg : goodWord w = true) : w ∈ wsA := List.mem_filter.mpr ⟨List.mem_append_left _ h, hg⟩
theorem in_CountedObjectsLaw : Cond.initialized RL ∈ wsA := wsA_in (i := 0) (by decide +kernel) (by decide +kernel)
theorem in_CountedObjects : Cond.initialized RX ∈ wsA := wsA_in (i := 1) (by decide +kernel) (by decide +kernel)
theorem in_java_lang_Math : Cond.initialized "java/lang/Math" ∈ wsA := wsA_in (i := 2) (by decide +kernel) (by decide +kernel)
theorem in_CountedObjects_FreeChunks : Cond.initialized RF ∈ wsA := wsA_in (i := 3) (by decide +kernel) (by decide +kernel)
theorem in_java_util_Arrays : Cond.initialized "java/util/Arrays" ∈ wsA := wsA_in (i := 4) (by decide +kernel) (by decide +kernel)
theorem in_CountedObjectsModel : Cond.initialized RM ∈ wsA := wsA_in (i := 5) (by decide +kernel) (by decide +kernel)
theorem in_java_lang_Throwable : Cond.initialized "java/lang/Throwable" ∈ wsA := wsA_in (i := 6) (by decide +kernel) (by decide +kernel)
theorem in_java_lang_Exception : Cond.initialized "java/lang/Exception" ∈ wsA := wsA_in (i := 7) (by decide +kernel) (by decide +kernel)
theorem in_java_lang_RuntimeException : Cond.initialized "java/lang/RuntimeException" ∈ wsA := wsA_in (i := 8) (by decide +kernel) (by decide +kernel)
theorem in_java_lang_IndexOutOfBoundsException : Cond.initialized "java/lang/IndexOutOfBoundsException" ∈ wsA := wsA_in (i := 9) (by decide +kernel) (by decide +kernel)
theorem in_java_lang_IllegalArgumentException : Cond.initialized "java/lang/IllegalArgumentException" ∈ wsA := wsA_in (i := 10) (by decide +kernel) (by decide +kernel)
theorem in_java_lang_System : Cond.initialized "java/lang/System" ∈ wsA := wsA_in (i := 11) (by decide +kernel) (by decide +kernel)
theorem in_java_lang_IllegalStateException : Cond.initialized "java/lang/IllegalStateException" ∈ wsA := wsA_in (i := 12) (by decide +kernel) (by decide +kernel)
theorem ln_L_49 : Cond.methodLink RL 49 yX_init ∈ wsA := wsA_in (i := 15) (by decide +kernel) (by decide +kernel)
theorem im_X_init : Cond.instanceMethod yX_init ∈ wsA := wsA_in (i := 16) (by decide +kernel) (by decide +kernel)
theorem cd_X_init : Cond.code yX_init cX_init 5 none ∈ wsA := wsA_in (i := 17) (by decide +kernel) (by decide +kernel)
theorem ln_X_33 : Cond.methodLink RX 33 yF_init ∈ wsA := wsA_in (i := 29) (by decide +kernel) (by decide +kernel)
theorem im_F_init : Cond.instanceMethod yF_init ∈ wsA := wsA_in (i := 30) (by decide +kernel) (by decide +kernel)
theorem cd_F_init : Cond.code yF_init cF_init 2 none ∈ wsA := wsA_in (i := 31) (by decide +kernel) (by decide +kernel)
theorem fl_F_9 : Cond.fieldLink RF 9 "CountedObjects$FreeChunks" "starts" "[I" ∈ wsA := wsA_in (i := 33) (by decide +kernel) (by decide +kernel)
theorem fl_F_15 : Cond.fieldLink RF 15 "CountedObjects$FreeChunks" "sizes" "[I" ∈ wsA := wsA_in (i := 34) (by decide +kernel) (by decide +kernel)
theorem fl_F_18 : Cond.fieldLink RF 18 "CountedObjects$FreeChunks" "held" "I" ∈ wsA := wsA_in (i := 35) (by decide +kernel) (by decide +kernel)
theorem la_F_starts : Cond.laysFinal RF "CountedObjects$FreeChunks" "starts" "[I" ∈ wsA := wsA_in (i := 37) (by decide +kernel) (by decide +kernel)
theorem la_F_sizes : Cond.laysFinal RF "CountedObjects$FreeChunks" "sizes" "[I" ∈ wsA := wsA_in (i := 39) (by decide +kernel) (by decide +kernel)
theorem la_F_held : Cond.lays RF "CountedObjects$FreeChunks" "held" "I" ∈ wsA := wsA_in (i := 41) (by decide +kernel) (by decide +kernel)
theorem ac_int : Cond.arrayClass .int ∈ wsA := wsA_in (i := 44) (by decide +kernel) (by decide +kernel)
theorem fl_X_18 : Cond.fieldLink RX 18 "CountedObjects" "words" "[I" ∈ wsA := wsA_in (i := 48) (by decide +kernel) (by decide +kernel)
theorem fl_X_22 : Cond.fieldLink RX 22 "CountedObjects" "addresses" "[I" ∈ wsA := wsA_in (i := 49) (by decide +kernel) (by decide +kernel)
theorem fl_X_25 : Cond.fieldLink RX 25 "CountedObjects" "counts" "[I" ∈ wsA := wsA_in (i := 50) (by decide +kernel) (by decide +kernel)
theorem fl_X_28 : Cond.fieldLink RX 28 "CountedObjects" "registers" "[I" ∈ wsA := wsA_in (i := 51) (by decide +kernel) (by decide +kernel)
theorem fl_X_36 : Cond.fieldLink RX 36 "CountedObjects" "freeChunks" "LCountedObjects$FreeChunks;" ∈ wsA := wsA_in (i := 52) (by decide +kernel) (by decide +kernel)
theorem fl_X_40 : Cond.fieldLink RX 40 "CountedObjects" "isReached" "[Z" ∈ wsA := wsA_in (i := 53) (by decide +kernel) (by decide +kernel)
theorem fl_X_44 : Cond.fieldLink RX 44 "CountedObjects" "reachedEntries" "[I" ∈ wsA := wsA_in (i := 54) (by decide +kernel) (by decide +kernel)
theorem fl_X_47 : Cond.fieldLink RX 47 "CountedObjects" "reachedHeld" "I" ∈ wsA := wsA_in (i := 55) (by decide +kernel) (by decide +kernel)
theorem la_X_words : Cond.laysFinal RX "CountedObjects" "words" "[I" ∈ wsA := wsA_in (i := 56) (by decide +kernel) (by decide +kernel)
theorem la_X_addresses : Cond.laysFinal RX "CountedObjects" "addresses" "[I" ∈ wsA := wsA_in (i := 58) (by decide +kernel) (by decide +kernel)
theorem la_X_counts : Cond.laysFinal RX "CountedObjects" "counts" "[I" ∈ wsA := wsA_in (i := 60) (by decide +kernel) (by decide +kernel)
theorem la_X_registers : Cond.laysFinal RX "CountedObjects" "registers" "[I" ∈ wsA := wsA_in (i := 62) (by decide +kernel) (by decide +kernel)
theorem la_X_freeChunks : Cond.laysFinal RX "CountedObjects" "freeChunks" "LCountedObjects$FreeChunks;" ∈ wsA := wsA_in (i := 64) (by decide +kernel) (by decide +kernel)
theorem la_X_isReached : Cond.laysFinal RX "CountedObjects" "isReached" "[Z" ∈ wsA := wsA_in (i := 66) (by decide +kernel) (by decide +kernel)
theorem la_X_reachedEntries : Cond.laysFinal RX "CountedObjects" "reachedEntries" "[I" ∈ wsA := wsA_in (i := 68) (by decide +kernel) (by decide +kernel)
theorem la_X_reachedHeld : Cond.lays RX "CountedObjects" "reachedHeld" "I" ∈ wsA := wsA_in (i := 70) (by decide +kernel) (by decide +kernel)
theorem ac_boolean : Cond.arrayClass .boolean ∈ wsA := wsA_in (i := 73) (by decide +kernel) (by decide +kernel)
theorem ln_L_86 : Cond.methodLink RL 86 yX_collect ∈ wsA := wsA_in (i := 74) (by decide +kernel) (by decide +kernel)
theorem im_X_collect : Cond.instanceMethod yX_collect ∈ wsA := wsA_in (i := 75) (by decide +kernel) (by decide +kernel)
theorem se_X_collect : Cond.selects RX yX_collect yX_collect ∈ wsA := wsA_in (i := 76) (by decide +kernel) (by decide +kernel)
theorem cd_X_collect : Cond.code yX_collect cX_collect 1 (some .int) ∈ wsA := wsA_in (i := 77) (by decide +kernel) (by decide +kernel)
theorem ln_X_104 : Cond.methodLink RX 104 yX_takeUnreached ∈ wsA := wsA_in (i := 78) (by decide +kernel) (by decide +kernel)
theorem im_X_takeUnreached : Cond.instanceMethod yX_takeUnreached ∈ wsA := wsA_in (i := 80) (by decide +kernel) (by decide +kernel)
theorem cd_X_takeUnreached : Cond.code yX_takeUnreached cX_takeUnreached 4 (some .int) ∈ wsA := wsA_in (i := 81) (by decide +kernel) (by decide +kernel)
theorem ln_X_153 : Cond.methodLink RX 153 yX_findReached ∈ wsA := wsA_in (i := 82) (by decide +kernel) (by decide +kernel)
theorem im_X_findReached : Cond.instanceMethod yX_findReached ∈ wsA := wsA_in (i := 84) (by decide +kernel) (by decide +kernel)
theorem cd_X_findReached : Cond.code yX_findReached cX_findReached 6 none ∈ wsA := wsA_in (i := 85) (by decide +kernel) (by decide +kernel)
theorem ln_X_159 : Cond.methodLink RX 159 yX_reach ∈ wsA := wsA_in (i := 86) (by decide +kernel) (by decide +kernel)
theorem im_X_reach : Cond.instanceMethod yX_reach ∈ wsA := wsA_in (i := 88) (by decide +kernel) (by decide +kernel)
theorem cd_X_reach : Cond.code yX_reach cX_reach 2 none ∈ wsA := wsA_in (i := 89) (by decide +kernel) (by decide +kernel)
theorem ln_X_87 : Cond.methodLink RX 87 yX_isObject ∈ wsA := wsA_in (i := 90) (by decide +kernel) (by decide +kernel)
theorem im_X_isObject : Cond.instanceMethod yX_isObject ∈ wsA := wsA_in (i := 92) (by decide +kernel) (by decide +kernel)
theorem cd_X_isObject : Cond.code yX_isObject cX_isObject 2 (some .boolean) ∈ wsA := wsA_in (i := 93) (by decide +kernel) (by decide +kernel)
theorem ln_X_120 : Cond.methodLink RX 120 yX_isUsed ∈ wsA := wsA_in (i := 94) (by decide +kernel) (by decide +kernel)
theorem im_X_isUsed : Cond.instanceMethod yX_isUsed ∈ wsA := wsA_in (i := 96) (by decide +kernel) (by decide +kernel)
theorem cd_X_isUsed : Cond.code yX_isUsed cX_isUsed 2 (some .boolean) ∈ wsA := wsA_in (i := 97) (by decide +kernel) (by decide +kernel)
theorem ln_X_126 : Cond.methodLink RX 126 yX_wordsOf ∈ wsA := wsA_in (i := 98) (by decide +kernel) (by decide +kernel)
theorem im_X_wordsOf : Cond.instanceMethod yX_wordsOf ∈ wsA := wsA_in (i := 100) (by decide +kernel) (by decide +kernel)
theorem cd_X_wordsOf : Cond.code yX_wordsOf cX_wordsOf 2 (some .int) ∈ wsA := wsA_in (i := 101) (by decide +kernel) (by decide +kernel)
theorem ln_X_129 : Cond.methodLink RX 129 yX_freeEntry ∈ wsA := wsA_in (i := 102) (by decide +kernel) (by decide +kernel)
theorem im_X_freeEntry : Cond.instanceMethod yX_freeEntry ∈ wsA := wsA_in (i := 104) (by decide +kernel) (by decide +kernel)
theorem cd_X_freeEntry : Cond.code yX_freeEntry cX_freeEntry 2 none ∈ wsA := wsA_in (i := 105) (by decide +kernel) (by decide +kernel)
theorem ln_X_132 : Cond.methodLink RX 132 yF_add ∈ wsA := wsA_in (i := 106) (by decide +kernel) (by decide +kernel)
theorem im_F_add : Cond.instanceMethod yF_add ∈ wsA := wsA_in (i := 107) (by decide +kernel) (by decide +kernel)
theorem se_F_add : Cond.selects RF yF_add yF_add ∈ wsA := wsA_in (i := 108) (by decide +kernel) (by decide +kernel)
theorem cd_F_add : Cond.code yF_add cF_add 3 none ∈ wsA := wsA_in (i := 109) (by decide +kernel) (by decide +kernel)
theorem ln_X_156 : Cond.methodLink RX 156 yX_countAnew ∈ wsA := wsA_in (i := 110) (by decide +kernel) (by decide +kernel)
theorem im_X_countAnew : Cond.instanceMethod yX_countAnew ∈ wsA := wsA_in (i := 112) (by decide +kernel) (by decide +kernel)
theorem cd_X_countAnew : Cond.code yX_countAnew cX_countAnew 5 none ∈ wsA := wsA_in (i := 113) (by decide +kernel) (by decide +kernel)
theorem ln_X_97 : Cond.methodLink RX 97 yX_addReference ∈ wsA := wsA_in (i := 114) (by decide +kernel) (by decide +kernel)
theorem im_X_addReference : Cond.instanceMethod yX_addReference ∈ wsA := wsA_in (i := 116) (by decide +kernel) (by decide +kernel)
theorem cd_X_addReference : Cond.code yX_addReference cX_addReference 2 none ∈ wsA := wsA_in (i := 117) (by decide +kernel) (by decide +kernel)
theorem ln_L_90 : Cond.methodLink RL 90 yX_compact ∈ wsA := wsA_in (i := 118) (by decide +kernel) (by decide +kernel)
theorem im_X_compact : Cond.instanceMethod yX_compact ∈ wsA := wsA_in (i := 119) (by decide +kernel) (by decide +kernel)
theorem se_X_compact : Cond.selects RX yX_compact yX_compact ∈ wsA := wsA_in (i := 120) (by decide +kernel) (by decide +kernel)
theorem cd_X_compact : Cond.code yX_compact cX_compact 1 (some .int) ∈ wsA := wsA_in (i := 121) (by decide +kernel) (by decide +kernel)
theorem ln_X_108 : Cond.methodLink RX 108 yX_moveTogether ∈ wsA := wsA_in (i := 122) (by decide +kernel) (by decide +kernel)
theorem im_X_moveTogether : Cond.instanceMethod yX_moveTogether ∈ wsA := wsA_in (i := 124) (by decide +kernel) (by decide +kernel)
theorem cd_X_moveTogether : Cond.code yX_moveTogether cX_moveTogether 6 (some .int) ∈ wsA := wsA_in (i := 125) (by decide +kernel) (by decide +kernel)
theorem ln_X_141 : Cond.methodLink RX 141 yX_lowestFrom ∈ wsA := wsA_in (i := 126) (by decide +kernel) (by decide +kernel)
theorem im_X_lowestFrom : Cond.instanceMethod yX_lowestFrom ∈ wsA := wsA_in (i := 128) (by decide +kernel) (by decide +kernel)
theorem cd_X_lowestFrom : Cond.code yX_lowestFrom cX_lowestFrom 5 (some .int) ∈ wsA := wsA_in (i := 129) (by decide +kernel) (by decide +kernel)
theorem ln_X_150 : Cond.methodLink RX 150 yF_clear ∈ wsA := wsA_in (i := 133) (by decide +kernel) (by decide +kernel)
theorem im_F_clear : Cond.instanceMethod yF_clear ∈ wsA := wsA_in (i := 134) (by decide +kernel) (by decide +kernel)
theorem se_F_clear : Cond.selects RF yF_clear yF_clear ∈ wsA := wsA_in (i := 135) (by decide +kernel) (by decide +kernel)
theorem cd_F_clear : Cond.code yF_clear cF_clear 1 none ∈ wsA := wsA_in (i := 136) (by decide +kernel) (by decide +kernel)
theorem ln_L_94 : Cond.methodLink RL 94 yX_exists ∈ wsA := wsA_in (i := 137) (by decide +kernel) (by decide +kernel)
theorem im_X_exists : Cond.instanceMethod yX_exists ∈ wsA := wsA_in (i := 138) (by decide +kernel) (by decide +kernel)
theorem se_X_exists : Cond.selects RX yX_exists yX_exists ∈ wsA := wsA_in (i := 139) (by decide +kernel) (by decide +kernel)
theorem cd_X_exists : Cond.code yX_exists cX_exists 2 (some .boolean) ∈ wsA := wsA_in (i := 140) (by decide +kernel) (by decide +kernel)
theorem ln_L_99 : Cond.methodLink RL 99 yX_count ∈ wsA := wsA_in (i := 141) (by decide +kernel) (by decide +kernel)
theorem im_X_count : Cond.instanceMethod yX_count ∈ wsA := wsA_in (i := 142) (by decide +kernel) (by decide +kernel)
theorem se_X_count : Cond.selects RX yX_count yX_count ∈ wsA := wsA_in (i := 143) (by decide +kernel) (by decide +kernel)
theorem cd_X_count : Cond.code yX_count cX_count 2 (some .int) ∈ wsA := wsA_in (i := 144) (by decide +kernel) (by decide +kernel)
theorem ln_L_103 : Cond.methodLink RL 103 yX_address ∈ wsA := wsA_in (i := 145) (by decide +kernel) (by decide +kernel)
theorem im_X_address : Cond.instanceMethod yX_address ∈ wsA := wsA_in (i := 146) (by decide +kernel) (by decide +kernel)
theorem se_X_address : Cond.selects RX yX_address yX_address ∈ wsA := wsA_in (i := 147) (by decide +kernel) (by decide +kernel)
theorem cd_X_address : Cond.code yX_address cX_address 2 (some .int) ∈ wsA := wsA_in (i := 148) (by decide +kernel) (by decide +kernel)
theorem ln_L_107 : Cond.methodLink RL 107 yX_chunks ∈ wsA := wsA_in (i := 149) (by decide +kernel) (by decide +kernel)
theorem im_X_chunks : Cond.instanceMethod yX_chunks ∈ wsA := wsA_in (i := 150) (by decide +kernel) (by decide +kernel)
theorem se_X_chunks : Cond.selects RX yX_chunks yX_chunks ∈ wsA := wsA_in (i := 151) (by decide +kernel) (by decide +kernel)
theorem cd_X_chunks : Cond.code yX_chunks cX_chunks 2 (some .int) ∈ wsA := wsA_in (i := 152) (by decide +kernel) (by decide +kernel)
theorem ln_X_114 : Cond.methodLink RX 114 yF_ofSize ∈ wsA := wsA_in (i := 153) (by decide +kernel) (by decide +kernel)
theorem im_F_ofSize : Cond.instanceMethod yF_ofSize ∈ wsA := wsA_in (i := 154) (by decide +kernel) (by decide +kernel)
theorem se_F_ofSize : Cond.selects RF yF_ofSize yF_ofSize ∈ wsA := wsA_in (i := 155) (by decide +kernel) (by decide +kernel)
theorem cd_F_ofSize : Cond.code yF_ofSize cF_ofSize 4 (some .int) ∈ wsA := wsA_in (i := 156) (by decide +kernel) (by decide +kernel)
theorem ln_L_111 : Cond.methodLink RL 111 yX_free ∈ wsA := wsA_in (i := 157) (by decide +kernel) (by decide +kernel)
theorem im_X_free : Cond.instanceMethod yX_free ∈ wsA := wsA_in (i := 158) (by decide +kernel) (by decide +kernel)
theorem se_X_free : Cond.selects RX yX_free yX_free ∈ wsA := wsA_in (i := 159) (by decide +kernel) (by decide +kernel)
theorem cd_X_free : Cond.code yX_free cX_free 1 (some .int) ∈ wsA := wsA_in (i := 160) (by decide +kernel) (by decide +kernel)
theorem ln_X_117 : Cond.methodLink RX 117 yF_allWords ∈ wsA := wsA_in (i := 161) (by decide +kernel) (by decide +kernel)
theorem im_F_allWords : Cond.instanceMethod yF_allWords ∈ wsA := wsA_in (i := 162) (by decide +kernel) (by decide +kernel)
theorem se_F_allWords : Cond.selects RF yF_allWords yF_allWords ∈ wsA := wsA_in (i := 163) (by decide +kernel) (by decide +kernel)
theorem cd_F_allWords : Cond.code yF_allWords cF_allWords 3 (some .int) ∈ wsA := wsA_in (i := 164) (by decide +kernel) (by decide +kernel)
theorem ln_L_115 : Cond.methodLink RL 115 yX_objects ∈ wsA := wsA_in (i := 165) (by decide +kernel) (by decide +kernel)
theorem im_X_objects : Cond.instanceMethod yX_objects ∈ wsA := wsA_in (i := 166) (by decide +kernel) (by decide +kernel)
theorem se_X_objects : Cond.selects RX yX_objects yX_objects ∈ wsA := wsA_in (i := 167) (by decide +kernel) (by decide +kernel)
theorem cd_X_objects : Cond.code yX_objects cX_objects 3 (some .int) ∈ wsA := wsA_in (i := 168) (by decide +kernel) (by decide +kernel)
theorem ln_L_43 : Cond.methodLink RL 43 yL_cell ∈ wsA := wsA_in (i := 169) (by decide +kernel) (by decide +kernel)
theorem sm_L_cell : Cond.static yL_cell ∈ wsA := wsA_in (i := 170) (by decide +kernel) (by decide +kernel)
theorem cd_L_cell : Cond.code yL_cell cL_cell 2 (some .int) ∈ wsA := wsA_in (i := 171) (by decide +kernel) (by decide +kernel)
theorem ln_L_54 : Cond.methodLink RL 54 yL_instantiate ∈ wsA := wsA_in (i := 172) (by decide +kernel) (by decide +kernel)
theorem sm_L_instantiate : Cond.static yL_instantiate ∈ wsA := wsA_in (i := 173) (by decide +kernel) (by decide +kernel)
theorem ln_L_7 : Cond.methodLink RL 7 yX_instantiate ∈ wsA := wsA_in (i := 178) (by decide +kernel) (by decide +kernel)
theorem im_X_instantiate : Cond.instanceMethod yX_instantiate ∈ wsA := wsA_in (i := 179) (by decide +kernel) (by decide +kernel)
theorem se_X_instantiate : Cond.selects RX yX_instantiate yX_instantiate ∈ wsA := wsA_in (i := 180) (by decide +kernel) (by decide +kernel)
theorem cd_X_instantiate : Cond.code yX_instantiate cX_instantiate 6 (some .int) ∈ wsA := wsA_in (i := 181) (by decide +kernel) (by decide +kernel)
theorem ln_X_57 : Cond.methodLink RX 57 yX_isRegister ∈ wsA := wsA_in (i := 182) (by decide +kernel) (by decide +kernel)
theorem sm_X_isRegister : Cond.static yX_isRegister ∈ wsA := wsA_in (i := 183) (by decide +kernel) (by decide +kernel)
theorem cd_X_isRegister : Cond.code yX_isRegister cX_isRegister 1 (some .boolean) ∈ wsA := wsA_in (i := 184) (by decide +kernel) (by decide +kernel)
theorem ln_X_64 : Cond.methodLink RX 64 yX_isValue ∈ wsA := wsA_in (i := 248) (by decide +kernel) (by decide +kernel)
theorem im_X_isValue : Cond.instanceMethod yX_isValue ∈ wsA := wsA_in (i := 250) (by decide +kernel) (by decide +kernel)
theorem cd_X_isValue : Cond.code yX_isValue cX_isValue 2 (some .boolean) ∈ wsA := wsA_in (i := 251) (by decide +kernel) (by decide +kernel)
theorem ln_X_70 : Cond.methodLink RX 70 yX_findRoom ∈ wsA := wsA_in (i := 267) (by decide +kernel) (by decide +kernel)
theorem im_X_findRoom : Cond.instanceMethod yX_findRoom ∈ wsA := wsA_in (i := 269) (by decide +kernel) (by decide +kernel)
theorem cd_X_findRoom : Cond.code yX_findRoom cX_findRoom 5 (some .int) ∈ wsA := wsA_in (i := 270) (by decide +kernel) (by decide +kernel)
theorem ln_X_73 : Cond.methodLink RX 73 yX_leastFreeEntry ∈ wsA := wsA_in (i := 271) (by decide +kernel) (by decide +kernel)
theorem im_X_leastFreeEntry : Cond.instanceMethod yX_leastFreeEntry ∈ wsA := wsA_in (i := 273) (by decide +kernel) (by decide +kernel)
theorem cd_X_leastFreeEntry : Cond.code yX_leastFreeEntry cX_leastFreeEntry 2 (some .int) ∈ wsA := wsA_in (i := 274) (by decide +kernel) (by decide +kernel)
theorem ln_X_135 : Cond.methodLink RX 135 yX_place ∈ wsA := wsA_in (i := 275) (by decide +kernel) (by decide +kernel)
theorem im_X_place : Cond.instanceMethod yX_place ∈ wsA := wsA_in (i := 277) (by decide +kernel) (by decide +kernel)
theorem cd_X_place : Cond.code yX_place cX_place 3 (some .int) ∈ wsA := wsA_in (i := 278) (by decide +kernel) (by decide +kernel)
theorem ln_X_138 : Cond.methodLink RX 138 yF_take ∈ wsA := wsA_in (i := 279) (by decide +kernel) (by decide +kernel)
theorem im_F_take : Cond.instanceMethod yF_take ∈ wsA := wsA_in (i := 280) (by decide +kernel) (by decide +kernel)
theorem se_F_take : Cond.selects RF yF_take yF_take ∈ wsA := wsA_in (i := 281) (by decide +kernel) (by decide +kernel)
theorem cd_F_take : Cond.code yF_take cF_take 5 (some .int) ∈ wsA := wsA_in (i := 282) (by decide +kernel) (by decide +kernel)
theorem ln_F_22 : Cond.methodLink RF 22 yF_bestFor ∈ wsA := wsA_in (i := 283) (by decide +kernel) (by decide +kernel)
theorem im_F_bestFor : Cond.instanceMethod yF_bestFor ∈ wsA := wsA_in (i := 285) (by decide +kernel) (by decide +kernel)
theorem cd_F_bestFor : Cond.code yF_bestFor cF_bestFor 4 (some .int) ∈ wsA := wsA_in (i := 286) (by decide +kernel) (by decide +kernel)
theorem ln_F_26 : Cond.methodLink RF 26 yF_remove ∈ wsA := wsA_in (i := 287) (by decide +kernel) (by decide +kernel)
theorem im_F_remove : Cond.instanceMethod yF_remove ∈ wsA := wsA_in (i := 289) (by decide +kernel) (by decide +kernel)
theorem cd_F_remove : Cond.code yF_remove cF_remove 2 none ∈ wsA := wsA_in (i := 290) (by decide +kernel) (by decide +kernel)
theorem ln_F_30 : Cond.methodLink RF 30 yF_add ∈ wsA := wsA_in (i := 292) (by decide +kernel) (by decide +kernel)
theorem ln_X_80 : Cond.methodLink RX 80 yX_makeObject ∈ wsA := wsA_in (i := 308) (by decide +kernel) (by decide +kernel)
theorem im_X_makeObject : Cond.instanceMethod yX_makeObject ∈ wsA := wsA_in (i := 310) (by decide +kernel) (by decide +kernel)
theorem cd_X_makeObject : Cond.code yX_makeObject cX_makeObject 6 none ∈ wsA := wsA_in (i := 311) (by decide +kernel) (by decide +kernel)
theorem ln_X_84 : Cond.methodLink RX 84 yX_replaceRegister ∈ wsA := wsA_in (i := 312) (by decide +kernel) (by decide +kernel)
theorem im_X_replaceRegister : Cond.instanceMethod yX_replaceRegister ∈ wsA := wsA_in (i := 314) (by decide +kernel) (by decide +kernel)
theorem cd_X_replaceRegister : Cond.code yX_replaceRegister cX_replaceRegister 4 (some .int) ∈ wsA := wsA_in (i := 315) (by decide +kernel) (by decide +kernel)
theorem ln_X_100 : Cond.methodLink RX 100 yX_dropReference ∈ wsA := wsA_in (i := 316) (by decide +kernel) (by decide +kernel)
theorem im_X_dropReference : Cond.instanceMethod yX_dropReference ∈ wsA := wsA_in (i := 318) (by decide +kernel) (by decide +kernel)
theorem cd_X_dropReference : Cond.code yX_dropReference cX_dropReference 3 none ∈ wsA := wsA_in (i := 319) (by decide +kernel) (by decide +kernel)
theorem ln_X_123 : Cond.methodLink RX 123 yX_letGo ∈ wsA := wsA_in (i := 320) (by decide +kernel) (by decide +kernel)
theorem im_X_letGo : Cond.instanceMethod yX_letGo ∈ wsA := wsA_in (i := 322) (by decide +kernel) (by decide +kernel)
theorem cd_X_letGo : Cond.code yX_letGo cX_letGo 5 none ∈ wsA := wsA_in (i := 323) (by decide +kernel) (by decide +kernel)
theorem ln_L_62 : Cond.methodLink RL 62 yL_set ∈ wsA := wsA_in (i := 324) (by decide +kernel) (by decide +kernel)
theorem sm_L_set : Cond.static yL_set ∈ wsA := wsA_in (i := 325) (by decide +kernel) (by decide +kernel)
theorem ln_L_19 : Cond.methodLink RL 19 yX_set ∈ wsA := wsA_in (i := 327) (by decide +kernel) (by decide +kernel)
theorem im_X_set : Cond.instanceMethod yX_set ∈ wsA := wsA_in (i := 328) (by decide +kernel) (by decide +kernel)
theorem se_X_set : Cond.selects RX yX_set yX_set ∈ wsA := wsA_in (i := 329) (by decide +kernel) (by decide +kernel)
theorem cd_X_set : Cond.code yX_set cX_set 3 (some .int) ∈ wsA := wsA_in (i := 330) (by decide +kernel) (by decide +kernel)
theorem ln_L_66 : Cond.methodLink RL 66 yL_register ∈ wsA := wsA_in (i := 331) (by decide +kernel) (by decide +kernel)
theorem sm_L_register : Cond.static yL_register ∈ wsA := wsA_in (i := 332) (by decide +kernel) (by decide +kernel)
theorem ln_L_23 : Cond.methodLink RL 23 yX_register ∈ wsA := wsA_in (i := 334) (by decide +kernel) (by decide +kernel)
theorem im_X_register : Cond.instanceMethod yX_register ∈ wsA := wsA_in (i := 335) (by decide +kernel) (by decide +kernel)
theorem se_X_register : Cond.selects RX yX_register yX_register ∈ wsA := wsA_in (i := 336) (by decide +kernel) (by decide +kernel)
theorem cd_X_register : Cond.code yX_register cX_register 2 (some .int) ∈ wsA := wsA_in (i := 337) (by decide +kernel) (by decide +kernel)
theorem ln_L_70 : Cond.methodLink RL 70 yL_fetch ∈ wsA := wsA_in (i := 338) (by decide +kernel) (by decide +kernel)
theorem sm_L_fetch : Cond.static yL_fetch ∈ wsA := wsA_in (i := 339) (by decide +kernel) (by decide +kernel)
theorem ln_L_27 : Cond.methodLink RL 27 yX_fetch ∈ wsA := wsA_in (i := 341) (by decide +kernel) (by decide +kernel)
theorem im_X_fetch : Cond.instanceMethod yX_fetch ∈ wsA := wsA_in (i := 342) (by decide +kernel) (by decide +kernel)
theorem se_X_fetch : Cond.selects RX yX_fetch yX_fetch ∈ wsA := wsA_in (i := 343) (by decide +kernel) (by decide +kernel)
theorem cd_X_fetch : Cond.code yX_fetch cX_fetch 3 (some .int) ∈ wsA := wsA_in (i := 344) (by decide +kernel) (by decide +kernel)
theorem ln_X_90 : Cond.methodLink RX 90 yX_hasField ∈ wsA := wsA_in (i := 345) (by decide +kernel) (by decide +kernel)
theorem im_X_hasField : Cond.instanceMethod yX_hasField ∈ wsA := wsA_in (i := 347) (by decide +kernel) (by decide +kernel)
theorem cd_X_hasField : Cond.code yX_hasField cX_hasField 3 (some .boolean) ∈ wsA := wsA_in (i := 348) (by decide +kernel) (by decide +kernel)
theorem ln_X_94 : Cond.methodLink RX 94 yX_fieldWord ∈ wsA := wsA_in (i := 349) (by decide +kernel) (by decide +kernel)
theorem im_X_fieldWord : Cond.instanceMethod yX_fieldWord ∈ wsA := wsA_in (i := 351) (by decide +kernel) (by decide +kernel)
theorem cd_X_fieldWord : Cond.code yX_fieldWord cX_fieldWord 3 (some .int) ∈ wsA := wsA_in (i := 352) (by decide +kernel) (by decide +kernel)
theorem ln_L_73 : Cond.methodLink RL 73 yL_store ∈ wsA := wsA_in (i := 353) (by decide +kernel) (by decide +kernel)
theorem sm_L_store : Cond.static yL_store ∈ wsA := wsA_in (i := 354) (by decide +kernel) (by decide +kernel)
theorem ln_L_30 : Cond.methodLink RL 30 yX_store ∈ wsA := wsA_in (i := 356) (by decide +kernel) (by decide +kernel)
theorem im_X_store : Cond.instanceMethod yX_store ∈ wsA := wsA_in (i := 357) (by decide +kernel) (by decide +kernel)
theorem se_X_store : Cond.selects RX yX_store yX_store ∈ wsA := wsA_in (i := 358) (by decide +kernel) (by decide +kernel)
theorem cd_X_store : Cond.code yX_store cX_store 6 (some .int) ∈ wsA := wsA_in (i := 359) (by decide +kernel) (by decide +kernel)
theorem ln_L_76 : Cond.methodLink RL 76 yL_type ∈ wsA := wsA_in (i := 360) (by decide +kernel) (by decide +kernel)
theorem sm_L_type : Cond.static yL_type ∈ wsA := wsA_in (i := 361) (by decide +kernel) (by decide +kernel)
theorem ln_L_33 : Cond.methodLink RL 33 yX_type ∈ wsA := wsA_in (i := 363) (by decide +kernel) (by decide +kernel)
theorem im_X_type : Cond.instanceMethod yX_type ∈ wsA := wsA_in (i := 364) (by decide +kernel) (by decide +kernel)
theorem se_X_type : Cond.selects RX yX_type yX_type ∈ wsA := wsA_in (i := 365) (by decide +kernel) (by decide +kernel)
theorem cd_X_type : Cond.code yX_type cX_type 2 (some .int) ∈ wsA := wsA_in (i := 366) (by decide +kernel) (by decide +kernel)
theorem ln_L_79 : Cond.methodLink RL 79 yL_fields ∈ wsA := wsA_in (i := 367) (by decide +kernel) (by decide +kernel)
theorem sm_L_fields : Cond.static yL_fields ∈ wsA := wsA_in (i := 368) (by decide +kernel) (by decide +kernel)
theorem ln_L_36 : Cond.methodLink RL 36 yX_fields ∈ wsA := wsA_in (i := 370) (by decide +kernel) (by decide +kernel)
theorem im_X_fields : Cond.instanceMethod yX_fields ∈ wsA := wsA_in (i := 371) (by decide +kernel) (by decide +kernel)
theorem se_X_fields : Cond.selects RX yX_fields yX_fields ∈ wsA := wsA_in (i := 372) (by decide +kernel) (by decide +kernel)
theorem cd_X_fields : Cond.code yX_fields cX_fields 2 (some .int) ∈ wsA := wsA_in (i := 373) (by decide +kernel) (by decide +kernel)
theorem ln_L_82 : Cond.methodLink RL 82 yL_become ∈ wsA := wsA_in (i := 374) (by decide +kernel) (by decide +kernel)
theorem sm_L_become : Cond.static yL_become ∈ wsA := wsA_in (i := 375) (by decide +kernel) (by decide +kernel)
theorem ln_L_39 : Cond.methodLink RL 39 yX_become ∈ wsA := wsA_in (i := 377) (by decide +kernel) (by decide +kernel)
theorem im_X_become : Cond.instanceMethod yX_become ∈ wsA := wsA_in (i := 378) (by decide +kernel) (by decide +kernel)
theorem se_X_become : Cond.selects RX yX_become yX_become ∈ wsA := wsA_in (i := 379) (by decide +kernel) (by decide +kernel)
theorem cd_X_become : Cond.code yX_become cX_become 4 none ∈ wsA := wsA_in (i := 380) (by decide +kernel) (by decide +kernel)
theorem ln_L_53 : Cond.methodLink RL 53 yM_init ∈ wsA := wsA_in (i := 383) (by decide +kernel) (by decide +kernel)
theorem im_M_init : Cond.instanceMethod yM_init ∈ wsA := wsA_in (i := 384) (by decide +kernel) (by decide +kernel)
theorem cd_M_init : Cond.code yM_init cM_init 3 none ∈ wsA := wsA_in (i := 385) (by decide +kernel) (by decide +kernel)
theorem ln_M_54 : Cond.methodLink RM 54 yM_give ∈ wsA := wsA_in (i := 387) (by decide +kernel) (by decide +kernel)
theorem im_M_give : Cond.instanceMethod yM_give ∈ wsA := wsA_in (i := 389) (by decide +kernel) (by decide +kernel)
theorem cd_M_give : Cond.code yM_give cM_give 3 none ∈ wsA := wsA_in (i := 390) (by decide +kernel) (by decide +kernel)
theorem fl_M_58 : Cond.fieldLink RM 58 "CountedObjectsModel" "thrown" "I" ∈ wsA := wsA_in (i := 391) (by decide +kernel) (by decide +kernel)
theorem fl_M_47 : Cond.fieldLink RM 47 "CountedObjectsModel" "words" "I" ∈ wsA := wsA_in (i := 392) (by decide +kernel) (by decide +kernel)
theorem fl_M_51 : Cond.fieldLink RM 51 "CountedObjectsModel" "entries" "I" ∈ wsA := wsA_in (i := 393) (by decide +kernel) (by decide +kernel)
theorem fl_M_7 : Cond.fieldLink RM 7 "CountedObjectsModel" "registers" "[I" ∈ wsA := wsA_in (i := 394) (by decide +kernel) (by decide +kernel)
theorem fl_M_13 : Cond.fieldLink RM 13 "CountedObjectsModel" "lives" "[Z" ∈ wsA := wsA_in (i := 395) (by decide +kernel) (by decide +kernel)
theorem fl_M_17 : Cond.fieldLink RM 17 "CountedObjectsModel" "addresses" "[I" ∈ wsA := wsA_in (i := 396) (by decide +kernel) (by decide +kernel)
theorem fl_M_20 : Cond.fieldLink RM 20 "CountedObjectsModel" "sizes" "[I" ∈ wsA := wsA_in (i := 397) (by decide +kernel) (by decide +kernel)
theorem fl_M_23 : Cond.fieldLink RM 23 "CountedObjectsModel" "counts" "[I" ∈ wsA := wsA_in (i := 398) (by decide +kernel) (by decide +kernel)
theorem fl_M_26 : Cond.fieldLink RM 26 "CountedObjectsModel" "word" "[I" ∈ wsA := wsA_in (i := 399) (by decide +kernel) (by decide +kernel)
theorem fl_M_68 : Cond.fieldLink RM 68 "CountedObjectsModel" "frees" "I" ∈ wsA := wsA_in (i := 400) (by decide +kernel) (by decide +kernel)
theorem fl_M_29 : Cond.fieldLink RM 29 "CountedObjectsModel" "begins" "[I" ∈ wsA := wsA_in (i := 401) (by decide +kernel) (by decide +kernel)
theorem fl_M_32 : Cond.fieldLink RM 32 "CountedObjectsModel" "lengths" "[I" ∈ wsA := wsA_in (i := 402) (by decide +kernel) (by decide +kernel)
theorem fl_M_35 : Cond.fieldLink RM 35 "CountedObjectsModel" "came" "[I" ∈ wsA := wsA_in (i := 403) (by decide +kernel) (by decide +kernel)
theorem fl_M_71 : Cond.fieldLink RM 71 "CountedObjectsModel" "clock" "I" ∈ wsA := wsA_in (i := 404) (by decide +kernel) (by decide +kernel)
theorem fl_M_85 : Cond.fieldLink RM 85 "CountedObjectsModel" "going" "I" ∈ wsA := wsA_in (i := 405) (by decide +kernel) (by decide +kernel)
theorem fl_M_38 : Cond.fieldLink RM 38 "CountedObjectsModel" "goes" "[I" ∈ wsA := wsA_in (i := 406) (by decide +kernel) (by decide +kernel)
theorem fl_M_41 : Cond.fieldLink RM 41 "CountedObjectsModel" "next" "[I" ∈ wsA := wsA_in (i := 407) (by decide +kernel) (by decide +kernel)
theorem fl_M_44 : Cond.fieldLink RM 44 "CountedObjectsModel" "reached" "[Z" ∈ wsA := wsA_in (i := 408) (by decide +kernel) (by decide +kernel)
theorem la_M_thrown : Cond.lays RM "CountedObjectsModel" "thrown" "I" ∈ wsA := wsA_in (i := 409) (by decide +kernel) (by decide +kernel)
theorem la_M_words : Cond.laysFinal RM "CountedObjectsModel" "words" "I" ∈ wsA := wsA_in (i := 411) (by decide +kernel) (by decide +kernel)
theorem la_M_entries : Cond.laysFinal RM "CountedObjectsModel" "entries" "I" ∈ wsA := wsA_in (i := 413) (by decide +kernel) (by decide +kernel)
theorem la_M_registers : Cond.laysFinal RM "CountedObjectsModel" "registers" "[I" ∈ wsA := wsA_in (i := 415) (by decide +kernel) (by decide +kernel)
theorem la_M_lives : Cond.laysFinal RM "CountedObjectsModel" "lives" "[Z" ∈ wsA := wsA_in (i := 417) (by decide +kernel) (by decide +kernel)
theorem la_M_addresses : Cond.laysFinal RM "CountedObjectsModel" "addresses" "[I" ∈ wsA := wsA_in (i := 419) (by decide +kernel) (by decide +kernel)
theorem la_M_sizes : Cond.laysFinal RM "CountedObjectsModel" "sizes" "[I" ∈ wsA := wsA_in (i := 421) (by decide +kernel) (by decide +kernel)
theorem la_M_counts : Cond.laysFinal RM "CountedObjectsModel" "counts" "[I" ∈ wsA := wsA_in (i := 423) (by decide +kernel) (by decide +kernel)
theorem la_M_word : Cond.laysFinal RM "CountedObjectsModel" "word" "[I" ∈ wsA := wsA_in (i := 425) (by decide +kernel) (by decide +kernel)
theorem la_M_frees : Cond.lays RM "CountedObjectsModel" "frees" "I" ∈ wsA := wsA_in (i := 427) (by decide +kernel) (by decide +kernel)
theorem la_M_begins : Cond.laysFinal RM "CountedObjectsModel" "begins" "[I" ∈ wsA := wsA_in (i := 429) (by decide +kernel) (by decide +kernel)
theorem la_M_lengths : Cond.laysFinal RM "CountedObjectsModel" "lengths" "[I" ∈ wsA := wsA_in (i := 431) (by decide +kernel) (by decide +kernel)
theorem la_M_came : Cond.laysFinal RM "CountedObjectsModel" "came" "[I" ∈ wsA := wsA_in (i := 433) (by decide +kernel) (by decide +kernel)
theorem la_M_clock : Cond.lays RM "CountedObjectsModel" "clock" "I" ∈ wsA := wsA_in (i := 435) (by decide +kernel) (by decide +kernel)
theorem la_M_going : Cond.lays RM "CountedObjectsModel" "going" "I" ∈ wsA := wsA_in (i := 437) (by decide +kernel) (by decide +kernel)
theorem la_M_goes : Cond.laysFinal RM "CountedObjectsModel" "goes" "[I" ∈ wsA := wsA_in (i := 439) (by decide +kernel) (by decide +kernel)
theorem la_M_next : Cond.laysFinal RM "CountedObjectsModel" "next" "[I" ∈ wsA := wsA_in (i := 441) (by decide +kernel) (by decide +kernel)
theorem la_M_reached : Cond.laysFinal RM "CountedObjectsModel" "reached" "[Z" ∈ wsA := wsA_in (i := 443) (by decide +kernel) (by decide +kernel)
theorem ln_L_58 : Cond.methodLink RL 58 yM_thrown ∈ wsA := wsA_in (i := 446) (by decide +kernel) (by decide +kernel)
theorem im_M_thrown : Cond.instanceMethod yM_thrown ∈ wsA := wsA_in (i := 447) (by decide +kernel) (by decide +kernel)
theorem se_M_thrown : Cond.selects RM yM_thrown yM_thrown ∈ wsA := wsA_in (i := 448) (by decide +kernel) (by decide +kernel)
theorem cd_M_thrown : Cond.code yM_thrown cM_thrown 1 (some .int) ∈ wsA := wsA_in (i := 449) (by decide +kernel) (by decide +kernel)
theorem ln_L_57 : Cond.methodLink RL 57 yM_instantiate ∈ wsA := wsA_in (i := 450) (by decide +kernel) (by decide +kernel)
theorem im_M_instantiate : Cond.instanceMethod yM_instantiate ∈ wsA := wsA_in (i := 451) (by decide +kernel) (by decide +kernel)
theorem se_M_instantiate : Cond.selects RM yM_instantiate yM_instantiate ∈ wsA := wsA_in (i := 452) (by decide +kernel) (by decide +kernel)
theorem cd_M_instantiate : Cond.code yM_instantiate cM_instantiate 8 (some .int) ∈ wsA := wsA_in (i := 453) (by decide +kernel) (by decide +kernel)
theorem ln_M_107 : Cond.methodLink RM 107 yM_isRegister ∈ wsA := wsA_in (i := 454) (by decide +kernel) (by decide +kernel)
theorem sm_M_isRegister : Cond.static yM_isRegister ∈ wsA := wsA_in (i := 455) (by decide +kernel) (by decide +kernel)
theorem cd_M_isRegister : Cond.code yM_isRegister cM_isRegister 1 (some .boolean) ∈ wsA := wsA_in (i := 456) (by decide +kernel) (by decide +kernel)
theorem ln_M_110 : Cond.methodLink RM 110 yM_isValue ∈ wsA := wsA_in (i := 457) (by decide +kernel) (by decide +kernel)
theorem im_M_isValue : Cond.instanceMethod yM_isValue ∈ wsA := wsA_in (i := 459) (by decide +kernel) (by decide +kernel)
theorem cd_M_isValue : Cond.code yM_isValue cM_isValue 2 (some .boolean) ∈ wsA := wsA_in (i := 460) (by decide +kernel) (by decide +kernel)
theorem ln_M_61 : Cond.methodLink RM 61 yM_leads ∈ wsA := wsA_in (i := 461) (by decide +kernel) (by decide +kernel)
theorem sm_M_leads : Cond.static yM_leads ∈ wsA := wsA_in (i := 462) (by decide +kernel) (by decide +kernel)
theorem cd_M_leads : Cond.code yM_leads cM_leads 1 (some .boolean) ∈ wsA := wsA_in (i := 463) (by decide +kernel) (by decide +kernel)
theorem ln_M_65 : Cond.methodLink RM 65 yM_isObject ∈ wsA := wsA_in (i := 464) (by decide +kernel) (by decide +kernel)
theorem im_M_isObject : Cond.instanceMethod yM_isObject ∈ wsA := wsA_in (i := 466) (by decide +kernel) (by decide +kernel)
theorem cd_M_isObject : Cond.code yM_isObject cM_isObject 2 (some .boolean) ∈ wsA := wsA_in (i := 467) (by decide +kernel) (by decide +kernel)
theorem ln_M_113 : Cond.methodLink RM 113 yM_freeEntry ∈ wsA := wsA_in (i := 468) (by decide +kernel) (by decide +kernel)
theorem im_M_freeEntry : Cond.instanceMethod yM_freeEntry ∈ wsA := wsA_in (i := 470) (by decide +kernel) (by decide +kernel)
theorem cd_M_freeEntry : Cond.code yM_freeEntry cM_freeEntry 2 (some .int) ∈ wsA := wsA_in (i := 471) (by decide +kernel) (by decide +kernel)
theorem ln_M_116 : Cond.methodLink RM 116 yM_gather ∈ wsA := wsA_in (i := 472) (by decide +kernel) (by decide +kernel)
theorem im_M_gather : Cond.instanceMethod yM_gather ∈ wsA := wsA_in (i := 474) (by decide +kernel) (by decide +kernel)
theorem cd_M_gather : Cond.code yM_gather cM_gather 6 (some .int) ∈ wsA := wsA_in (i := 475) (by decide +kernel) (by decide +kernel)
theorem ln_M_101 : Cond.methodLink RM 101 yM_reach ∈ wsA := wsA_in (i := 476) (by decide +kernel) (by decide +kernel)
theorem im_M_reach : Cond.instanceMethod yM_reach ∈ wsA := wsA_in (i := 478) (by decide +kernel) (by decide +kernel)
theorem cd_M_reach : Cond.code yM_reach cM_reach 3 (some .boolean) ∈ wsA := wsA_in (i := 479) (by decide +kernel) (by decide +kernel)
theorem ln_M_104 : Cond.methodLink RM 104 yM_spread ∈ wsA := wsA_in (i := 480) (by decide +kernel) (by decide +kernel)
theorem im_M_spread : Cond.instanceMethod yM_spread ∈ wsA := wsA_in (i := 482) (by decide +kernel) (by decide +kernel)
theorem cd_M_spread : Cond.code yM_spread cM_spread 5 (some .boolean) ∈ wsA := wsA_in (i := 483) (by decide +kernel) (by decide +kernel)
theorem ln_M_92 : Cond.methodLink RM 92 yM_takeAway ∈ wsA := wsA_in (i := 484) (by decide +kernel) (by decide +kernel)
theorem im_M_takeAway : Cond.instanceMethod yM_takeAway ∈ wsA := wsA_in (i := 486) (by decide +kernel) (by decide +kernel)
theorem cd_M_takeAway : Cond.code yM_takeAway cM_takeAway 2 none ∈ wsA := wsA_in (i := 487) (by decide +kernel) (by decide +kernel)
theorem ln_M_95 : Cond.methodLink RM 95 yM_comes ∈ wsA := wsA_in (i := 488) (by decide +kernel) (by decide +kernel)
theorem im_M_comes : Cond.instanceMethod yM_comes ∈ wsA := wsA_in (i := 490) (by decide +kernel) (by decide +kernel)
theorem cd_M_comes : Cond.code yM_comes cM_comes 2 none ∈ wsA := wsA_in (i := 491) (by decide +kernel) (by decide +kernel)
theorem ln_M_119 : Cond.methodLink RM 119 yM_place ∈ wsA := wsA_in (i := 492) (by decide +kernel) (by decide +kernel)
theorem im_M_place : Cond.instanceMethod yM_place ∈ wsA := wsA_in (i := 494) (by decide +kernel) (by decide +kernel)
theorem cd_M_place : Cond.code yM_place cM_place 5 (some .int) ∈ wsA := wsA_in (i := 495) (by decide +kernel) (by decide +kernel)
theorem ln_M_74 : Cond.methodLink RM 74 yM_fitting ∈ wsA := wsA_in (i := 496) (by decide +kernel) (by decide +kernel)
theorem im_M_fitting : Cond.instanceMethod yM_fitting ∈ wsA := wsA_in (i := 498) (by decide +kernel) (by decide +kernel)
theorem cd_M_fitting : Cond.code yM_fitting cM_fitting 5 (some .int) ∈ wsA := wsA_in (i := 499) (by decide +kernel) (by decide +kernel)
theorem ln_M_78 : Cond.methodLink RM 78 yM_freeWords ∈ wsA := wsA_in (i := 500) (by decide +kernel) (by decide +kernel)
theorem im_M_freeWords : Cond.instanceMethod yM_freeWords ∈ wsA := wsA_in (i := 502) (by decide +kernel) (by decide +kernel)
theorem cd_M_freeWords : Cond.code yM_freeWords cM_freeWords 3 (some .int) ∈ wsA := wsA_in (i := 503) (by decide +kernel) (by decide +kernel)
theorem ln_M_82 : Cond.methodLink RM 82 yM_pack ∈ wsA := wsA_in (i := 504) (by decide +kernel) (by decide +kernel)
theorem im_M_pack : Cond.instanceMethod yM_pack ∈ wsA := wsA_in (i := 506) (by decide +kernel) (by decide +kernel)
theorem cd_M_pack : Cond.code yM_pack cM_pack 8 (some .int) ∈ wsA := wsA_in (i := 507) (by decide +kernel) (by decide +kernel)
theorem ln_M_122 : Cond.methodLink RM 122 yM_replace ∈ wsA := wsA_in (i := 508) (by decide +kernel) (by decide +kernel)
theorem im_M_replace : Cond.instanceMethod yM_replace ∈ wsA := wsA_in (i := 510) (by decide +kernel) (by decide +kernel)
theorem cd_M_replace : Cond.code yM_replace cM_replace 3 (some .int) ∈ wsA := wsA_in (i := 511) (by decide +kernel) (by decide +kernel)
theorem ln_M_98 : Cond.methodLink RM 98 yM_leaves ∈ wsA := wsA_in (i := 512) (by decide +kernel) (by decide +kernel)
theorem im_M_leaves : Cond.instanceMethod yM_leaves ∈ wsA := wsA_in (i := 514) (by decide +kernel) (by decide +kernel)
theorem cd_M_leaves : Cond.code yM_leaves cM_leaves 4 none ∈ wsA := wsA_in (i := 515) (by decide +kernel) (by decide +kernel)
theorem ln_M_88 : Cond.methodLink RM 88 yM_less ∈ wsA := wsA_in (i := 516) (by decide +kernel) (by decide +kernel)
theorem im_M_less : Cond.instanceMethod yM_less ∈ wsA := wsA_in (i := 518) (by decide +kernel) (by decide +kernel)
theorem cd_M_less : Cond.code yM_less cM_less 2 none ∈ wsA := wsA_in (i := 519) (by decide +kernel) (by decide +kernel)
theorem ln_L_65 : Cond.methodLink RL 65 yM_set ∈ wsA := wsA_in (i := 520) (by decide +kernel) (by decide +kernel)
theorem im_M_set : Cond.instanceMethod yM_set ∈ wsA := wsA_in (i := 521) (by decide +kernel) (by decide +kernel)
theorem se_M_set : Cond.selects RM yM_set yM_set ∈ wsA := wsA_in (i := 522) (by decide +kernel) (by decide +kernel)
theorem cd_M_set : Cond.code yM_set cM_set 4 (some .int) ∈ wsA := wsA_in (i := 523) (by decide +kernel) (by decide +kernel)
theorem ln_L_69 : Cond.methodLink RL 69 yM_register ∈ wsA := wsA_in (i := 524) (by decide +kernel) (by decide +kernel)
theorem im_M_register : Cond.instanceMethod yM_register ∈ wsA := wsA_in (i := 525) (by decide +kernel) (by decide +kernel)
theorem se_M_register : Cond.selects RM yM_register yM_register ∈ wsA := wsA_in (i := 526) (by decide +kernel) (by decide +kernel)
theorem cd_M_register : Cond.code yM_register cM_register 2 (some .int) ∈ wsA := wsA_in (i := 527) (by decide +kernel) (by decide +kernel)
theorem ln_L_72 : Cond.methodLink RL 72 yM_fetch ∈ wsA := wsA_in (i := 528) (by decide +kernel) (by decide +kernel)
theorem im_M_fetch : Cond.instanceMethod yM_fetch ∈ wsA := wsA_in (i := 529) (by decide +kernel) (by decide +kernel)
theorem se_M_fetch : Cond.selects RM yM_fetch yM_fetch ∈ wsA := wsA_in (i := 530) (by decide +kernel) (by decide +kernel)
theorem cd_M_fetch : Cond.code yM_fetch cM_fetch 3 (some .int) ∈ wsA := wsA_in (i := 531) (by decide +kernel) (by decide +kernel)
theorem ln_M_126 : Cond.methodLink RM 126 yM_hasField ∈ wsA := wsA_in (i := 532) (by decide +kernel) (by decide +kernel)
theorem im_M_hasField : Cond.instanceMethod yM_hasField ∈ wsA := wsA_in (i := 534) (by decide +kernel) (by decide +kernel)
theorem cd_M_hasField : Cond.code yM_hasField cM_hasField 3 (some .boolean) ∈ wsA := wsA_in (i := 535) (by decide +kernel) (by decide +kernel)
theorem ln_L_75 : Cond.methodLink RL 75 yM_store ∈ wsA := wsA_in (i := 536) (by decide +kernel) (by decide +kernel)
theorem im_M_store : Cond.instanceMethod yM_store ∈ wsA := wsA_in (i := 537) (by decide +kernel) (by decide +kernel)
theorem se_M_store : Cond.selects RM yM_store yM_store ∈ wsA := wsA_in (i := 538) (by decide +kernel) (by decide +kernel)
theorem cd_M_store : Cond.code yM_store cM_store 6 (some .int) ∈ wsA := wsA_in (i := 539) (by decide +kernel) (by decide +kernel)
theorem ln_L_78 : Cond.methodLink RL 78 yM_type ∈ wsA := wsA_in (i := 540) (by decide +kernel) (by decide +kernel)
theorem im_M_type : Cond.instanceMethod yM_type ∈ wsA := wsA_in (i := 541) (by decide +kernel) (by decide +kernel)
theorem se_M_type : Cond.selects RM yM_type yM_type ∈ wsA := wsA_in (i := 542) (by decide +kernel) (by decide +kernel)
theorem cd_M_type : Cond.code yM_type cM_type 2 (some .int) ∈ wsA := wsA_in (i := 543) (by decide +kernel) (by decide +kernel)
theorem ln_L_81 : Cond.methodLink RL 81 yM_fields ∈ wsA := wsA_in (i := 544) (by decide +kernel) (by decide +kernel)
theorem im_M_fields : Cond.instanceMethod yM_fields ∈ wsA := wsA_in (i := 545) (by decide +kernel) (by decide +kernel)
theorem se_M_fields : Cond.selects RM yM_fields yM_fields ∈ wsA := wsA_in (i := 546) (by decide +kernel) (by decide +kernel)
theorem cd_M_fields : Cond.code yM_fields cM_fields 2 (some .int) ∈ wsA := wsA_in (i := 547) (by decide +kernel) (by decide +kernel)
theorem ln_L_85 : Cond.methodLink RL 85 yM_become ∈ wsA := wsA_in (i := 548) (by decide +kernel) (by decide +kernel)
theorem im_M_become : Cond.instanceMethod yM_become ∈ wsA := wsA_in (i := 549) (by decide +kernel) (by decide +kernel)
theorem se_M_become : Cond.selects RM yM_become yM_become ∈ wsA := wsA_in (i := 550) (by decide +kernel) (by decide +kernel)
theorem cd_M_become : Cond.code yM_become cM_become 5 none ∈ wsA := wsA_in (i := 551) (by decide +kernel) (by decide +kernel)
theorem ln_L_89 : Cond.methodLink RL 89 yM_collect ∈ wsA := wsA_in (i := 552) (by decide +kernel) (by decide +kernel)
theorem im_M_collect : Cond.instanceMethod yM_collect ∈ wsA := wsA_in (i := 553) (by decide +kernel) (by decide +kernel)
theorem se_M_collect : Cond.selects RM yM_collect yM_collect ∈ wsA := wsA_in (i := 554) (by decide +kernel) (by decide +kernel)
theorem cd_M_collect : Cond.code yM_collect cM_collect 1 (some .int) ∈ wsA := wsA_in (i := 555) (by decide +kernel) (by decide +kernel)
theorem ln_L_93 : Cond.methodLink RL 93 yM_compact ∈ wsA := wsA_in (i := 556) (by decide +kernel) (by decide +kernel)
theorem im_M_compact : Cond.instanceMethod yM_compact ∈ wsA := wsA_in (i := 557) (by decide +kernel) (by decide +kernel)
theorem se_M_compact : Cond.selects RM yM_compact yM_compact ∈ wsA := wsA_in (i := 558) (by decide +kernel) (by decide +kernel)
theorem cd_M_compact : Cond.code yM_compact cM_compact 1 (some .int) ∈ wsA := wsA_in (i := 559) (by decide +kernel) (by decide +kernel)
theorem ln_L_98 : Cond.methodLink RL 98 yM_exists ∈ wsA := wsA_in (i := 560) (by decide +kernel) (by decide +kernel)
theorem im_M_exists : Cond.instanceMethod yM_exists ∈ wsA := wsA_in (i := 561) (by decide +kernel) (by decide +kernel)
theorem se_M_exists : Cond.selects RM yM_exists yM_exists ∈ wsA := wsA_in (i := 562) (by decide +kernel) (by decide +kernel)
theorem cd_M_exists : Cond.code yM_exists cM_exists 2 (some .boolean) ∈ wsA := wsA_in (i := 563) (by decide +kernel) (by decide +kernel)
theorem ln_L_102 : Cond.methodLink RL 102 yM_count ∈ wsA := wsA_in (i := 564) (by decide +kernel) (by decide +kernel)
theorem im_M_count : Cond.instanceMethod yM_count ∈ wsA := wsA_in (i := 565) (by decide +kernel) (by decide +kernel)
theorem se_M_count : Cond.selects RM yM_count yM_count ∈ wsA := wsA_in (i := 566) (by decide +kernel) (by decide +kernel)
theorem cd_M_count : Cond.code yM_count cM_count 2 (some .int) ∈ wsA := wsA_in (i := 567) (by decide +kernel) (by decide +kernel)
theorem ln_L_106 : Cond.methodLink RL 106 yM_address ∈ wsA := wsA_in (i := 568) (by decide +kernel) (by decide +kernel)
theorem im_M_address : Cond.instanceMethod yM_address ∈ wsA := wsA_in (i := 569) (by decide +kernel) (by decide +kernel)
theorem se_M_address : Cond.selects RM yM_address yM_address ∈ wsA := wsA_in (i := 570) (by decide +kernel) (by decide +kernel)
theorem cd_M_address : Cond.code yM_address cM_address 2 (some .int) ∈ wsA := wsA_in (i := 571) (by decide +kernel) (by decide +kernel)
theorem ln_L_110 : Cond.methodLink RL 110 yM_chunks ∈ wsA := wsA_in (i := 572) (by decide +kernel) (by decide +kernel)
theorem im_M_chunks : Cond.instanceMethod yM_chunks ∈ wsA := wsA_in (i := 573) (by decide +kernel) (by decide +kernel)
theorem se_M_chunks : Cond.selects RM yM_chunks yM_chunks ∈ wsA := wsA_in (i := 574) (by decide +kernel) (by decide +kernel)
theorem cd_M_chunks : Cond.code yM_chunks cM_chunks 4 (some .int) ∈ wsA := wsA_in (i := 575) (by decide +kernel) (by decide +kernel)
theorem ln_L_114 : Cond.methodLink RL 114 yM_free ∈ wsA := wsA_in (i := 576) (by decide +kernel) (by decide +kernel)
theorem im_M_free : Cond.instanceMethod yM_free ∈ wsA := wsA_in (i := 577) (by decide +kernel) (by decide +kernel)
theorem se_M_free : Cond.selects RM yM_free yM_free ∈ wsA := wsA_in (i := 578) (by decide +kernel) (by decide +kernel)
theorem cd_M_free : Cond.code yM_free cM_free 1 (some .int) ∈ wsA := wsA_in (i := 579) (by decide +kernel) (by decide +kernel)
theorem ln_L_118 : Cond.methodLink RL 118 yM_objects ∈ wsA := wsA_in (i := 580) (by decide +kernel) (by decide +kernel)
theorem im_M_objects : Cond.instanceMethod yM_objects ∈ wsA := wsA_in (i := 581) (by decide +kernel) (by decide +kernel)
theorem se_M_objects : Cond.selects RM yM_objects yM_objects ∈ wsA := wsA_in (i := 582) (by decide +kernel) (by decide +kernel)
theorem cd_M_objects : Cond.code yM_objects cM_objects 3 (some .int) ∈ wsA := wsA_in (i := 583) (by decide +kernel) (by decide +kernel)
theorem ac_long : Cond.arrayClass .long ∈ wsA := wsA_in (i := 584) (by decide +kernel) (by decide +kernel)
theorem se_X_takeUnreached : Cond.selects RX yX_takeUnreached yX_takeUnreached ∈ wsA := wsA_sel (by decide +kernel) (by decide +kernel)
theorem se_X_findReached : Cond.selects RX yX_findReached yX_findReached ∈ wsA := wsA_sel (by decide +kernel) (by decide +kernel)
theorem se_X_reach : Cond.selects RX yX_reach yX_reach ∈ wsA := wsA_sel (by decide +kernel) (by decide +kernel)
theorem se_X_isObject : Cond.selects RX yX_isObject yX_isObject ∈ wsA := wsA_sel (by decide +kernel) (by decide +kernel)
theorem se_X_isUsed : Cond.selects RX yX_isUsed yX_isUsed ∈ wsA := wsA_sel (by decide +kernel) (by decide +kernel)
theorem se_X_wordsOf : Cond.selects RX yX_wordsOf yX_wordsOf ∈ wsA := wsA_sel (by decide +kernel) (by decide +kernel)
theorem se_X_freeEntry : Cond.selects RX yX_freeEntry yX_freeEntry ∈ wsA := wsA_sel (by decide +kernel) (by decide +kernel)
theorem se_X_countAnew : Cond.selects RX yX_countAnew yX_countAnew ∈ wsA := wsA_sel (by decide +kernel) (by decide +kernel)
theorem se_X_addReference : Cond.selects RX yX_addReference yX_addReference ∈ wsA := wsA_sel (by decide +kernel) (by decide +kernel)
theorem se_X_moveTogether : Cond.selects RX yX_moveTogether yX_moveTogether ∈ wsA := wsA_sel (by decide +kernel) (by decide +kernel)
theorem se_X_lowestFrom : Cond.selects RX yX_lowestFrom yX_lowestFrom ∈ wsA := wsA_sel (by decide +kernel) (by decide +kernel)
theorem se_X_isValue : Cond.selects RX yX_isValue yX_isValue ∈ wsA := wsA_sel (by decide +kernel) (by decide +kernel)
theorem se_X_findRoom : Cond.selects RX yX_findRoom yX_findRoom ∈ wsA := wsA_sel (by decide +kernel) (by decide +kernel)
theorem se_X_leastFreeEntry : Cond.selects RX yX_leastFreeEntry yX_leastFreeEntry ∈ wsA := wsA_sel (by decide +kernel) (by decide +kernel)
theorem se_X_place : Cond.selects RX yX_place yX_place ∈ wsA := wsA_sel (by decide +kernel) (by decide +kernel)
theorem se_F_bestFor : Cond.selects RF yF_bestFor yF_bestFor ∈ wsA := wsA_sel (by decide +kernel) (by decide +kernel)
theorem se_F_remove : Cond.selects RF yF_remove yF_remove ∈ wsA := wsA_sel (by decide +kernel) (by decide +kernel)
theorem se_X_makeObject : Cond.selects RX yX_makeObject yX_makeObject ∈ wsA := wsA_sel (by decide +kernel) (by decide +kernel)
theorem se_X_replaceRegister : Cond.selects RX yX_replaceRegister yX_replaceRegister ∈ wsA := wsA_sel (by decide +kernel) (by decide +kernel)
theorem se_X_dropReference : Cond.selects RX yX_dropReference yX_dropReference ∈ wsA := wsA_sel (by decide +kernel) (by decide +kernel)
theorem se_X_letGo : Cond.selects RX yX_letGo yX_letGo ∈ wsA := wsA_sel (by decide +kernel) (by decide +kernel)
theorem se_X_hasField : Cond.selects RX yX_hasField yX_hasField ∈ wsA := wsA_sel (by decide +kernel) (by decide +kernel)
theorem se_X_fieldWord : Cond.selects RX yX_fieldWord yX_fieldWord ∈ wsA := wsA_sel (by decide +kernel) (by decide +kernel)
theorem se_M_give : Cond.selects RM yM_give yM_give ∈ wsA := wsA_sel (by decide +kernel) (by decide +kernel)
theorem se_M_isValue : Cond.selects RM yM_isValue yM_isValue ∈ wsA := wsA_sel (by decide +kernel) (by decide +kernel)
theorem se_M_isObject : Cond.selects RM yM_isObject yM_isObject ∈ wsA := wsA_sel (by decide +kernel) (by decide +kernel)
theorem se_M_freeEntry : Cond.selects RM yM_freeEntry yM_freeEntry ∈ wsA := wsA_sel (by decide +kernel) (by decide +kernel)
theorem se_M_gather : Cond.selects RM yM_gather yM_gather ∈ wsA := wsA_sel (by decide +kernel) (by decide +kernel)
theorem se_M_reach : Cond.selects RM yM_reach yM_reach ∈ wsA := wsA_sel (by decide +kernel) (by decide +kernel)
theorem se_M_spread : Cond.selects RM yM_spread yM_spread ∈ wsA := wsA_sel (by decide +kernel) (by decide +kernel)
theorem se_M_takeAway : Cond.selects RM yM_takeAway yM_takeAway ∈ wsA := wsA_sel (by decide +kernel) (by decide +kernel)
theorem se_M_comes : Cond.selects RM yM_comes yM_comes ∈ wsA := wsA_sel (by decide +kernel) (by decide +kernel)
theorem se_M_place : Cond.selects RM yM_place yM_place ∈ wsA := wsA_sel (by decide +kernel) (by decide +kernel)
theorem se_M_fitting : Cond.selects RM yM_fitting yM_fitting ∈ wsA := wsA_sel (by decide +kernel) (by decide +kernel)
theorem se_M_freeWords : Cond.selects RM yM_freeWords yM_freeWords ∈ wsA := wsA_sel (by decide +kernel) (by decide +kernel)
theorem se_M_pack : Cond.selects RM yM_pack yM_pack ∈ wsA := wsA_sel (by decide +kernel) (by decide +kernel)
theorem se_M_replace : Cond.selects RM yM_replace yM_replace ∈ wsA := wsA_sel (by decide +kernel) (by decide +kernel)
theorem se_M_leaves : Cond.selects RM yM_leaves yM_leaves ∈ wsA := wsA_sel (by decide +kernel) (by decide +kernel)
theorem se_M_less : Cond.selects RM yM_less yM_less ∈ wsA := wsA_sel (by decide +kernel) (by decide +kernel)
theorem se_M_hasField : Cond.selects RM yM_hasField yM_hasField ∈ wsA := wsA_sel (by decide +kernel) (by decide +kernel)
theorem hi_X : ∀ w ∈ u_ws RX TX 8, w ∈ wsA := by
  intro w h
  obtain ⟨k, hk, rfl⟩ := List.mem_map.mp h
  have hk := List.mem_range.mp hk
  match k, hk with
  | 0, _ => exact la_X_words
  | 1, _ => exact la_X_addresses
  | 2, _ => exact la_X_counts
  | 3, _ => exact la_X_registers
  | 4, _ => exact la_X_freeChunks
  | 5, _ => exact la_X_isReached
  | 6, _ => exact la_X_reachedEntries
  | 7, _ => exact la_X_reachedHeld
theorem hi_F : ∀ w ∈ u_ws RF TF 3, w ∈ wsA := by
  intro w h
  obtain ⟨k, hk, rfl⟩ := List.mem_map.mp h
  have hk := List.mem_range.mp hk
  match k, hk with
  | 0, _ => exact la_F_starts
  | 1, _ => exact la_F_sizes
  | 2, _ => exact la_F_held
theorem hi_M : ∀ w ∈ u_ws RM TM 18, w ∈ wsA := by
  intro w h
  obtain ⟨k, hk, rfl⟩ := List.mem_map.mp h
  have hk := List.mem_range.mp hk
  match k, hk with
  | 0, _ => exact la_M_thrown
  | 1, _ => exact la_M_words
  | 2, _ => exact la_M_entries
  | 3, _ => exact la_M_registers
  | 4, _ => exact la_M_lives
  | 5, _ => exact la_M_addresses
  | 6, _ => exact la_M_sizes
  | 7, _ => exact la_M_counts
  | 8, _ => exact la_M_word
  | 9, _ => exact la_M_frees
  | 10, _ => exact la_M_begins
  | 11, _ => exact la_M_lengths
  | 12, _ => exact la_M_came
  | 13, _ => exact la_M_clock
  | 14, _ => exact la_M_going
  | 15, _ => exact la_M_goes
  | 16, _ => exact la_M_next
  | 17, _ => exact la_M_reached
  | n + 18, hk => exact absurd hk (by omega)
end
section
/-! The walk's frame: a judgement GV that hides the heap behind a world 'wd S' (S: the contents of the arrays and the int fields), and a row for each instruction. -/
abbrev GS : Type := Nat → Nat → Int32
def gx_set (k i : Nat) (v : Int32) (S : GS) : GS := fun b => if b = k then upd (S k) i v else S b
def gx_row (k : Nat) (f : Nat → Int32) (S : GS) : GS := fun b => if b = k then f else S b
theorem gx_set_row (k i : Nat) (v : Int32) (S : GS) : gx_set k i v S = gx_row k (upd (S k) i v) S := rfl
/-- what a method's walk stands on -/
abbrev GC (p : Program) (s : State) (m : MethodId) (args : Array Value) (c : Code) (cc : ByteArray) (nL : Nat) (own : String) (Ts : List Cond) (D : va_G) (cl : List vw_C) (tys : List (ClassId × FieldType)) (A : Nat → Prop) : Prop :=
  CallFix p m c cc nL s args Ts own ∧ va_K D cl tys s ∧ (∀ q, s.heap.size ≤ q → A q) ∧ ∀ w ∈ Ts, goodWord w = true
section GXA
variable {p : Program} {l : Launch} {e : Env} {R : Room} {s : State} {m : MethodId} {args : Array Value} {below : List Frame} {meth : Method} {c : Code} {Q : State → Prop}
variable {cc : ByteArray} {nL : Nat} {own : String} {Ts : List Cond} {D : va_G} {cl : List vw_C} {tys : List (ClassId × FieldType)} {A : Nat → Prop} {wd : GS → va_W}
/-- at the pc, with these locals and this stack, over any heap that holds the world of S: the machine comes to Q -/
def GV (p : Program) (l : Launch) (e : Env) (R : Room) (s : State) (m : MethodId) (args : Array Value) (below : List Frame) (meth : Method) (c : Code) (Q : State → Prop) (nL : Nat) (D : va_G) (cl : List vw_C) (A : Nat → Prop) (wd : GS → va_W) (S : GS) (pc : Nat) (L : List (Nat × Value)) (st : List Value) : Prop :=
  ∀ (H : Heap) (locs : List Loc) (ls : Array Slot), lv_has ls nL L → va_P D cl (wd S) H → va_D A (wd S) → va_S A s.heap H locs → W p l e R s m args below meth c H locs 0 0 Q (F0 m pc ls st)
variable {S : GS} {pc : Nat} {L L' : List (Nat × Value)} {st : List Value}
theorem gx_iconst (C : GC p s m args c cc nL own Ts D cl tys A) {n : Int} {v : Int32} (d : decode cc pc = .ok (.iconst n, 1)) (hv : Int32.ofInt n = v) (k : GV p l e R s m args below meth c Q nL D cl A wd S (pc + 1) L (.int v :: st)) : GV p l e R s m args below meth c Q nL D cl A wd S pc L st :=
  fun H locs ls h1 h2 h3 h4 => lv_iconst C.1.1 C.1.2.1 d hv (k H locs ls h1 h2 h3 h4)
theorem gx_bipush (C : GC p s m args c cc nL own Ts D cl tys A) {n : Int} {v : Int32} (d : decode cc pc = .ok (.bipush n, 2)) (hv : (Int8.ofInt n).toInt32 = v) (k : GV p l e R s m args below meth c Q nL D cl A wd S (pc + 2) L (.int v :: st)) : GV p l e R s m args below meth c Q nL D cl A wd S pc L st :=
  fun H locs ls h1 h2 h3 h4 => lv_bipush C.1.1 C.1.2.1 d hv (k H locs ls h1 h2 h3 h4)
theorem gx_sipush (C : GC p s m args c cc nL own Ts D cl tys A) {n : Int} {v : Int32} (d : decode cc pc = .ok (.sipush n, 3)) (hv : (Int16.ofInt n).toInt32 = v) (k : GV p l e R s m args below meth c Q nL D cl A wd S (pc + 3) L (.int v :: st)) : GV p l e R s m args below meth c Q nL D cl A wd S pc L st :=
  fun H locs ls h1 h2 h3 h4 => lv_sipush C.1.1 C.1.2.1 d hv (k H locs ls h1 h2 h3 h4)
theorem gx_iload_n (C : GC p s m args c cc nL own Ts D cl tys A) {f : Fin 4} {i : Nat} {x : Int32} (d : decode cc pc = .ok (.iload_n f, 1)) (j : Nat) (hf : (f : Nat) = i) (hj : L[j]? = some (i, .int x)) (k : GV p l e R s m args below meth c Q nL D cl A wd S (pc + 1) L (.int x :: st)) : GV p l e R s m args below meth c Q nL D cl A wd S pc L st :=
  fun H locs ls h1 h2 h3 h4 => lv_iload_n C.1.1 C.1.2.1 d hf (lv_at h1 j hj) (k H locs ls h1 h2 h3 h4)
theorem gx_iload (C : GC p s m args c cc nL own Ts D cl tys A) {i : Nat} {x : Int32} (d : decode cc pc = .ok (.iload i, 2)) (j : Nat) (hj : L[j]? = some (i, .int x)) (k : GV p l e R s m args below meth c Q nL D cl A wd S (pc + 2) L (.int x :: st)) : GV p l e R s m args below meth c Q nL D cl A wd S pc L st :=
  fun H locs ls h1 h2 h3 h4 => lv_iload C.1.1 C.1.2.1 d (lv_at h1 j hj) (k H locs ls h1 h2 h3 h4)
theorem gx_aload_n (C : GC p s m args c cc nL own Ts D cl tys A) {f : Fin 4} {i x : Nat} (d : decode cc pc = .ok (.aload_n f, 1)) (j : Nat) (hf : (f : Nat) = i) (hj : L[j]? = some (i, .ref x)) (k : GV p l e R s m args below meth c Q nL D cl A wd S (pc + 1) L (.ref x :: st)) : GV p l e R s m args below meth c Q nL D cl A wd S pc L st :=
  fun H locs ls h1 h2 h3 h4 => lv_aload_n C.1.1 C.1.2.1 d hf (lv_at h1 j hj) (k H locs ls h1 h2 h3 h4)
theorem gx_istore_n (C : GC p s m args c cc nL own Ts D cl tys A) {f : Fin 4} {i : Nat} {x : Int32} (d : decode cc pc = .ok (.istore_n f, 1)) (hf : (f : Nat) = i) (hn : i < nL) (hl : (i, Value.int x) :: L.filter (fun q => !(q.1 == i) && !(q.1 + 1 == i && q.2.category == 2)) = L') (k : GV p l e R s m args below meth c Q nL D cl A wd S (pc + 1) L' st) : GV p l e R s m args below meth c Q nL D cl A wd S pc L (.int x :: st) :=
  fun H locs _ h1 h2 h3 h4 => lv_istore_n C.1.1 C.1.2.1 d hf h1 hn hl (fun ls' h' => k H locs ls' h' h2 h3 h4)
theorem gx_istore (C : GC p s m args c cc nL own Ts D cl tys A) {i : Nat} {x : Int32} (d : decode cc pc = .ok (.istore i, 2)) (hn : i < nL) (hl : (i, Value.int x) :: L.filter (fun q => !(q.1 == i) && !(q.1 + 1 == i && q.2.category == 2)) = L') (k : GV p l e R s m args below meth c Q nL D cl A wd S (pc + 2) L' st) : GV p l e R s m args below meth c Q nL D cl A wd S pc L (.int x :: st) :=
  fun H locs _ h1 h2 h3 h4 => lv_istore C.1.1 C.1.2.1 d h1 hn hl (fun ls' h' => k H locs ls' h' h2 h3 h4)
theorem gx_iinc (C : GC p s m args c cc nL own Ts D cl tys A) {i : Nat} {n : Int} {x v0 : Int32} {f : Int32 → List (Nat × Value)} (d : decode cc pc = .ok (.iinc i n, 3)) (j : Nat) (hj : L[j]? = some (i, .int x)) (hv : Int32.ofInt n = v0) (hn : i < nL) (hl : ∀ v : Int32, (i, Value.int v) :: L.filter (fun q => !(q.1 == i) && !(q.1 + 1 == i && q.2.category == 2)) = f v) (k : ∀ v : Int32, v = x + v0 → GV p l e R s m args below meth c Q nL D cl A wd S (pc + 3) (f v) st) : GV p l e R s m args below meth c Q nL D cl A wd S pc L st :=
  fun H locs _ h1 h2 h3 h4 => lv_iinc C.1.1 C.1.2.1 d h1 hj (v := x + v0) (by rw [hv]) hn (hl _) (fun ls' h' => k _ rfl H locs ls' h' h2 h3 h4)
/-- a name for the number on top -/
theorem gx_top {x : Int32} (k : ∀ v : Int32, v = x → GV p l e R s m args below meth c Q nL D cl A wd S pc L (.int v :: st)) : GV p l e R s m args below meth c Q nL D cl A wd S pc L (.int x :: st) := k x rfl
/-- fewer locals, in another order -/
theorem gx_sub (ks : List Nat) (hl : lv_pick L ks = L') (k : GV p l e R s m args below meth c Q nL D cl A wd S pc L' st) : GV p l e R s m args below meth c Q nL D cl A wd S pc L st :=
  fun H locs ls h1 h2 h3 h4 => k H locs ls (lv_sub h1 ks hl) h2 h3 h4
theorem gx_iadd (C : GC p s m args c cc nL own Ts D cl tys A) {x y : Int32} (d : decode cc pc = .ok (.iadd, 1)) (k : GV p l e R s m args below meth c Q nL D cl A wd S (pc + 1) L (.int (x + y) :: st)) : GV p l e R s m args below meth c Q nL D cl A wd S pc L (.int y :: .int x :: st) :=
  fun H locs ls h1 h2 h3 h4 => lv_iadd C.1.1 C.1.2.1 d (k H locs ls h1 h2 h3 h4)
theorem gx_isub (C : GC p s m args c cc nL own Ts D cl tys A) {x y : Int32} (d : decode cc pc = .ok (.isub, 1)) (k : GV p l e R s m args below meth c Q nL D cl A wd S (pc + 1) L (.int (x - y) :: st)) : GV p l e R s m args below meth c Q nL D cl A wd S pc L (.int y :: .int x :: st) :=
  fun H locs ls h1 h2 h3 h4 => lv_isub C.1.1 C.1.2.1 d (k H locs ls h1 h2 h3 h4)
theorem gx_imul (C : GC p s m args c cc nL own Ts D cl tys A) {x y : Int32} (d : decode cc pc = .ok (.imul, 1)) (k : GV p l e R s m args below meth c Q nL D cl A wd S (pc + 1) L (.int (x * y) :: st)) : GV p l e R s m args below meth c Q nL D cl A wd S pc L (.int y :: .int x :: st) :=
  fun H locs ls h1 h2 h3 h4 => lv_imul C.1.1 C.1.2.1 d (k H locs ls h1 h2 h3 h4)
theorem gx_iand (C : GC p s m args c cc nL own Ts D cl tys A) {x y : Int32} (d : decode cc pc = .ok (.iand, 1)) (k : GV p l e R s m args below meth c Q nL D cl A wd S (pc + 1) L (.int (x &&& y) :: st)) : GV p l e R s m args below meth c Q nL D cl A wd S pc L (.int y :: .int x :: st) :=
  fun H locs ls h1 h2 h3 h4 => lv_iand C.1.1 C.1.2.1 d (k H locs ls h1 h2 h3 h4)
theorem gx_idiv (C : GC p s m args c cc nL own Ts D cl tys A) {x y : Int32} (d : decode cc pc = .ok (.idiv, 1)) (hy : ¬ y = 0) (k : GV p l e R s m args below meth c Q nL D cl A wd S (pc + 1) L (.int (x / y) :: st)) : GV p l e R s m args below meth c Q nL D cl A wd S pc L (.int y :: .int x :: st) :=
  fun H locs ls h1 h2 h3 h4 => lv_idiv C.1.1 C.1.2.1 d hy (k H locs ls h1 h2 h3 h4)
theorem gx_irem (C : GC p s m args c cc nL own Ts D cl tys A) {x y : Int32} (d : decode cc pc = .ok (.irem, 1)) (hy : ¬ y = 0) (k : GV p l e R s m args below meth c Q nL D cl A wd S (pc + 1) L (.int (x - x / y * y) :: st)) : GV p l e R s m args below meth c Q nL D cl A wd S pc L (.int y :: .int x :: st) :=
  fun H locs ls h1 h2 h3 h4 => lv_irem C.1.1 C.1.2.1 d hy (k H locs ls h1 h2 h3 h4)
theorem gx_dup (C : GC p s m args c cc nL own Ts D cl tys A) {x : Value} (d : decode cc pc = .ok (.dup, 1)) (hx : x.category = 1) (k : GV p l e R s m args below meth c Q nL D cl A wd S (pc + 1) L (x :: x :: st)) : GV p l e R s m args below meth c Q nL D cl A wd S pc L (x :: st) :=
  fun H locs ls h1 h2 h3 h4 => lv_dup C.1.1 C.1.2.1 d hx (k H locs ls h1 h2 h3 h4)
theorem gx_dup2 (C : GC p s m args c cc nL own Ts D cl tys A) {x y : Value} (d : decode cc pc = .ok (.dup2, 1)) (hx : x.category = 1) (hy : y.category = 1) (k : GV p l e R s m args below meth c Q nL D cl A wd S (pc + 1) L (x :: y :: x :: y :: st)) : GV p l e R s m args below meth c Q nL D cl A wd S pc L (x :: y :: st) :=
  fun H locs ls h1 h2 h3 h4 => lv_dup2_11 C.1.1 C.1.2.1 d hx hy (k H locs ls h1 h2 h3 h4)
theorem gx_dup_x1 (C : GC p s m args c cc nL own Ts D cl tys A) {x y : Value} (d : decode cc pc = .ok (.dup_x1, 1)) (hx : x.category = 1) (hy : y.category = 1) (k : GV p l e R s m args below meth c Q nL D cl A wd S (pc + 1) L (x :: y :: x :: st)) : GV p l e R s m args below meth c Q nL D cl A wd S pc L (x :: y :: st) :=
  fun H locs ls h1 h2 h3 h4 => lv_dup_x1 C.1.1 C.1.2.1 d hx hy (k H locs ls h1 h2 h3 h4)
theorem gx_pop (C : GC p s m args c cc nL own Ts D cl tys A) {x : Value} (d : decode cc pc = .ok (.pop, 1)) (hx : x.category = 1) (k : GV p l e R s m args below meth c Q nL D cl A wd S (pc + 1) L st) : GV p l e R s m args below meth c Q nL D cl A wd S pc L (x :: st) :=
  fun H locs ls h1 h2 h3 h4 => lv_pop C.1.1 C.1.2.1 d hx (k H locs ls h1 h2 h3 h4)
theorem gx_goto (C : GC p s m args c cc nL own Ts D cl tys A) {off : Int} (d : decode cc pc = .ok (.goto off, 3)) (tgt : Nat) (ht : (pc : Int) + off = (tgt : Int)) (k : GV p l e R s m args below meth c Q nL D cl A wd S tgt L st) : GV p l e R s m args below meth c Q nL D cl A wd S pc L st :=
  fun H locs ls h1 h2 h3 h4 => lv_goto C.1.1 C.1.2.1 d ht (k H locs ls h1 h2 h3 h4)
theorem gx_if_eq (C : GC p s m args c cc nL own Ts D cl tys A) {x : Int32} {off : Int} (d : decode cc pc = .ok (.ifCond .eq off, 3)) (tgt : Nat) (ht : (pc : Int) + off = (tgt : Int)) (kt : x = 0 → GV p l e R s m args below meth c Q nL D cl A wd S tgt L st) (kf : ¬ x = 0 → GV p l e R s m args below meth c Q nL D cl A wd S (pc + 3) L st) : GV p l e R s m args below meth c Q nL D cl A wd S pc L (.int x :: st) :=
  fun H locs ls h1 h2 h3 h4 => lv_if_eq C.1.1 C.1.2.1 d ht (fun q => kt q H locs ls h1 h2 h3 h4) (fun q => kf q H locs ls h1 h2 h3 h4)
theorem gx_icmp_eq (C : GC p s m args c cc nL own Ts D cl tys A) {x y : Int32} {off : Int} (d : decode cc pc = .ok (.if_icmp .eq off, 3)) (tgt : Nat) (ht : (pc : Int) + off = (tgt : Int)) (kt : x = y → GV p l e R s m args below meth c Q nL D cl A wd S tgt L st) (kf : ¬ x = y → GV p l e R s m args below meth c Q nL D cl A wd S (pc + 3) L st) : GV p l e R s m args below meth c Q nL D cl A wd S pc L (.int y :: .int x :: st) :=
  fun H locs ls h1 h2 h3 h4 => lv_icmp_eq C.1.1 C.1.2.1 d ht (fun q => kt q H locs ls h1 h2 h3 h4) (fun q => kf q H locs ls h1 h2 h3 h4)
theorem gx_if_ne (C : GC p s m args c cc nL own Ts D cl tys A) {x : Int32} {off : Int} (d : decode cc pc = .ok (.ifCond .ne off, 3)) (tgt : Nat) (ht : (pc : Int) + off = (tgt : Int)) (kt : ¬ x = 0 → GV p l e R s m args below meth c Q nL D cl A wd S tgt L st) (kf : x = 0 → GV p l e R s m args below meth c Q nL D cl A wd S (pc + 3) L st) : GV p l e R s m args below meth c Q nL D cl A wd S pc L (.int x :: st) :=
  fun H locs ls h1 h2 h3 h4 => lv_if_ne C.1.1 C.1.2.1 d ht (fun q => kt q H locs ls h1 h2 h3 h4) (fun q => kf q H locs ls h1 h2 h3 h4)
theorem gx_icmp_ne (C : GC p s m args c cc nL own Ts D cl tys A) {x y : Int32} {off : Int} (d : decode cc pc = .ok (.if_icmp .ne off, 3)) (tgt : Nat) (ht : (pc : Int) + off = (tgt : Int)) (kt : ¬ x = y → GV p l e R s m args below meth c Q nL D cl A wd S tgt L st) (kf : x = y → GV p l e R s m args below meth c Q nL D cl A wd S (pc + 3) L st) : GV p l e R s m args below meth c Q nL D cl A wd S pc L (.int y :: .int x :: st) :=
  fun H locs ls h1 h2 h3 h4 => lv_icmp_ne C.1.1 C.1.2.1 d ht (fun q => kt q H locs ls h1 h2 h3 h4) (fun q => kf q H locs ls h1 h2 h3 h4)
theorem gx_if_lt (C : GC p s m args c cc nL own Ts D cl tys A) {x : Int32} {off : Int} (d : decode cc pc = .ok (.ifCond .lt off, 3)) (tgt : Nat) (ht : (pc : Int) + off = (tgt : Int)) (kt : x < 0 → GV p l e R s m args below meth c Q nL D cl A wd S tgt L st) (kf : ¬ x < 0 → GV p l e R s m args below meth c Q nL D cl A wd S (pc + 3) L st) : GV p l e R s m args below meth c Q nL D cl A wd S pc L (.int x :: st) :=
  fun H locs ls h1 h2 h3 h4 => lv_if_lt C.1.1 C.1.2.1 d ht (fun q => kt q H locs ls h1 h2 h3 h4) (fun q => kf q H locs ls h1 h2 h3 h4)
theorem gx_icmp_lt (C : GC p s m args c cc nL own Ts D cl tys A) {x y : Int32} {off : Int} (d : decode cc pc = .ok (.if_icmp .lt off, 3)) (tgt : Nat) (ht : (pc : Int) + off = (tgt : Int)) (kt : x < y → GV p l e R s m args below meth c Q nL D cl A wd S tgt L st) (kf : ¬ x < y → GV p l e R s m args below meth c Q nL D cl A wd S (pc + 3) L st) : GV p l e R s m args below meth c Q nL D cl A wd S pc L (.int y :: .int x :: st) :=
  fun H locs ls h1 h2 h3 h4 => lv_icmp_lt C.1.1 C.1.2.1 d ht (fun q => kt q H locs ls h1 h2 h3 h4) (fun q => kf q H locs ls h1 h2 h3 h4)
theorem gx_if_ge (C : GC p s m args c cc nL own Ts D cl tys A) {x : Int32} {off : Int} (d : decode cc pc = .ok (.ifCond .ge off, 3)) (tgt : Nat) (ht : (pc : Int) + off = (tgt : Int)) (kt : 0 ≤ x → GV p l e R s m args below meth c Q nL D cl A wd S tgt L st) (kf : ¬ 0 ≤ x → GV p l e R s m args below meth c Q nL D cl A wd S (pc + 3) L st) : GV p l e R s m args below meth c Q nL D cl A wd S pc L (.int x :: st) :=
  fun H locs ls h1 h2 h3 h4 => lv_if_ge C.1.1 C.1.2.1 d ht (fun q => kt q H locs ls h1 h2 h3 h4) (fun q => kf q H locs ls h1 h2 h3 h4)
theorem gx_icmp_ge (C : GC p s m args c cc nL own Ts D cl tys A) {x y : Int32} {off : Int} (d : decode cc pc = .ok (.if_icmp .ge off, 3)) (tgt : Nat) (ht : (pc : Int) + off = (tgt : Int)) (kt : y ≤ x → GV p l e R s m args below meth c Q nL D cl A wd S tgt L st) (kf : ¬ y ≤ x → GV p l e R s m args below meth c Q nL D cl A wd S (pc + 3) L st) : GV p l e R s m args below meth c Q nL D cl A wd S pc L (.int y :: .int x :: st) :=
  fun H locs ls h1 h2 h3 h4 => lv_icmp_ge C.1.1 C.1.2.1 d ht (fun q => kt q H locs ls h1 h2 h3 h4) (fun q => kf q H locs ls h1 h2 h3 h4)
theorem gx_if_gt (C : GC p s m args c cc nL own Ts D cl tys A) {x : Int32} {off : Int} (d : decode cc pc = .ok (.ifCond .gt off, 3)) (tgt : Nat) (ht : (pc : Int) + off = (tgt : Int)) (kt : 0 < x → GV p l e R s m args below meth c Q nL D cl A wd S tgt L st) (kf : ¬ 0 < x → GV p l e R s m args below meth c Q nL D cl A wd S (pc + 3) L st) : GV p l e R s m args below meth c Q nL D cl A wd S pc L (.int x :: st) :=
  fun H locs ls h1 h2 h3 h4 => lv_if_gt C.1.1 C.1.2.1 d ht (fun q => kt q H locs ls h1 h2 h3 h4) (fun q => kf q H locs ls h1 h2 h3 h4)
theorem gx_icmp_gt (C : GC p s m args c cc nL own Ts D cl tys A) {x y : Int32} {off : Int} (d : decode cc pc = .ok (.if_icmp .gt off, 3)) (tgt : Nat) (ht : (pc : Int) + off = (tgt : Int)) (kt : y < x → GV p l e R s m args below meth c Q nL D cl A wd S tgt L st) (kf : ¬ y < x → GV p l e R s m args below meth c Q nL D cl A wd S (pc + 3) L st) : GV p l e R s m args below meth c Q nL D cl A wd S pc L (.int y :: .int x :: st) :=
  fun H locs ls h1 h2 h3 h4 => lv_icmp_gt C.1.1 C.1.2.1 d ht (fun q => kt q H locs ls h1 h2 h3 h4) (fun q => kf q H locs ls h1 h2 h3 h4)
theorem gx_if_le (C : GC p s m args c cc nL own Ts D cl tys A) {x : Int32} {off : Int} (d : decode cc pc = .ok (.ifCond .le off, 3)) (tgt : Nat) (ht : (pc : Int) + off = (tgt : Int)) (kt : x ≤ 0 → GV p l e R s m args below meth c Q nL D cl A wd S tgt L st) (kf : ¬ x ≤ 0 → GV p l e R s m args below meth c Q nL D cl A wd S (pc + 3) L st) : GV p l e R s m args below meth c Q nL D cl A wd S pc L (.int x :: st) :=
  fun H locs ls h1 h2 h3 h4 => lv_if_le C.1.1 C.1.2.1 d ht (fun q => kt q H locs ls h1 h2 h3 h4) (fun q => kf q H locs ls h1 h2 h3 h4)
theorem gx_icmp_le (C : GC p s m args c cc nL own Ts D cl tys A) {x y : Int32} {off : Int} (d : decode cc pc = .ok (.if_icmp .le off, 3)) (tgt : Nat) (ht : (pc : Int) + off = (tgt : Int)) (kt : x ≤ y → GV p l e R s m args below meth c Q nL D cl A wd S tgt L st) (kf : ¬ x ≤ y → GV p l e R s m args below meth c Q nL D cl A wd S (pc + 3) L st) : GV p l e R s m args below meth c Q nL D cl A wd S pc L (.int y :: .int x :: st) :=
  fun H locs ls h1 h2 h3 h4 => lv_icmp_le C.1.1 C.1.2.1 d ht (fun q => kt q H locs ls h1 h2 h3 h4) (fun q => kf q H locs ls h1 h2 h3 h4)
/-! an array of the world: place q, address a, row k of S, n long -/
def GA (wd : GS → va_W) (tys : List (ClassId × FieldType)) (q a k n : Nat) (ty : FieldType) : Prop :=
  ∃ (cA : ClassId) (t0 : Nat), (∀ S : GS, (wd S)[q]? = some (a, .inl (cA, n, .inl (S k)))) ∧ (∀ (S : GS) (f : Nat → Int32), (wd S).set q (a, .inl (cA, n, .inl f)) = wd (gx_row k f S)) ∧ tys[t0]? = some (cA, ty)
theorem gx_iald (C : GC p s m args c cc nL own Ts D cl tys A) {q a k n : Nat} (h : GA wd tys q a k n .int) {i : Int32} (hin : vp_in i n) (d : decode cc pc = .ok (.iaload, 1)) (kk : GV p l e R s m args below meth c Q nL D cl A wd S (pc + 1) L (.int (S k i.toNatClampNeg) :: st)) : GV p l e R s m args below meth c Q nL D cl A wd S pc L (.int i :: .ref a :: st) := by
  obtain ⟨cA, t0, h5, h6, h7⟩ := h
  exact fun H locs ls h1 h2 h3 h4 => va_iald C.1.1 C.1.2.1 C.2.1 h2 q t0 (h5 S) h7 hin d (kk H locs ls h1 h2 h3 h4)
theorem gx_zald (C : GC p s m args c cc nL own Ts D cl tys A) {q a k n : Nat} (h : GA wd tys q a k n .boolean) {i : Int32} (hin : vp_in i n) (d : decode cc pc = .ok (.baload, 1)) (kk : GV p l e R s m args below meth c Q nL D cl A wd S (pc + 1) L (.int (S k i.toNatClampNeg) :: st)) : GV p l e R s m args below meth c Q nL D cl A wd S pc L (.int i :: .ref a :: st) := by
  obtain ⟨cA, t0, h5, h6, h7⟩ := h
  exact fun H locs ls h1 h2 h3 h4 => va_zald C.1.1 C.1.2.1 C.2.1 h2 q t0 (h5 S) h7 hin d (kk H locs ls h1 h2 h3 h4)
theorem gx_iast (C : GC p s m args c cc nL own Ts D cl tys A) {q a k n : Nat} (h : GA wd tys q a k n .int) {i x : Int32} (hin : vp_in i n) (d : decode cc pc = .ok (.iastore, 1)) (kk : ∀ S1 : GS, S1 = gx_set k i.toNatClampNeg x S → GV p l e R s m args below meth c Q nL D cl A wd S1 (pc + 1) L st) : GV p l e R s m args below meth c Q nL D cl A wd S pc L (.int x :: .int i :: .ref a :: st) := by
  obtain ⟨cA, t0, h5, h6, h7⟩ := h
  intro H locs ls h1 h2 h3 h4
  refine va_iast C.1.1 C.1.2.1 C.2.1 h2 h3 h4 q t0 (h5 S) h7 hin d (fun H1 locs1 g2 g3 g4 => ?_)
  rw [h6 S] at g2 g3
  exact kk _ rfl H1 locs1 ls h1 g2 g3 g4
theorem gx_zast (C : GC p s m args c cc nL own Ts D cl tys A) {q a k n : Nat} (h : GA wd tys q a k n .boolean) {i x : Int32} (hin : vp_in i n) (hx : vp_nar .boolean x = x) (d : decode cc pc = .ok (.bastore, 1)) (kk : ∀ S1 : GS, S1 = gx_set k i.toNatClampNeg x S → GV p l e R s m args below meth c Q nL D cl A wd S1 (pc + 1) L st) : GV p l e R s m args below meth c Q nL D cl A wd S pc L (.int x :: .int i :: .ref a :: st) := by
  obtain ⟨cA, t0, h5, h6, h7⟩ := h
  intro H locs ls h1 h2 h3 h4
  refine va_zast C.1.1 C.1.2.1 C.2.1 h2 h3 h4 q t0 (h5 S) h7 hin d (fun H1 locs1 g2 g3 g4 => ?_)
  rw [hx, h6 S] at g2 g3
  exact kk _ rfl H1 locs1 ls h1 g2 g3 g4
theorem gx_alen (C : GC p s m args c cc nL own Ts D cl tys A) {q a k n : Nat} {ty : FieldType} (h : GA wd tys q a k n ty) (d : decode cc pc = .ok (.arraylength, 1)) (kk : GV p l e R s m args below meth c Q nL D cl A wd S (pc + 1) L (.int (nI n) :: st)) : GV p l e R s m args below meth c Q nL D cl A wd S pc L (.ref a :: st) := by
  obtain ⟨cA, t0, h5, h6, h7⟩ := h
  exact fun H locs ls h1 h2 h3 h4 => va_alen C.1.1 C.1.2.1 C.2.1 h2 q t0 (h5 S) h7 (v := nI n) rfl d (kk H locs ls h1 h2 h3 h4)
/-- System.arraycopy within one int array -/
theorem gx_copy (C : GC p s m args c cc nL own Ts D cl tys A) {q a k n index : Nat} (h : GA wd tys q a k n .int) (hlink : Cond.methodLink own index arraycopyName ∈ Ts) (hnat : Cond.native arraycopyName ∈ Ts) (hstat : Cond.static arraycopyName ∈ Ts) (hini : Cond.initialized "java/lang/System" ∈ Ts) {sp dp nn : Int32} (h1 : ¬ sp < 0) (h2 : ¬ dp < 0) (h3 : ¬ nn < 0) (h4 : sp.toNatClampNeg + nn.toNatClampNeg ≤ n) (h5 : dp.toNatClampNeg + nn.toNatClampNeg ≤ n) (hframes : 1 ≤ R.frames) (hlocals : (st.map fun v => v.category).sum + (nativeFrameWords "java/lang/System" "arraycopy" 5 + 11) ≤ R.locals) (d : decode cc pc = .ok (.invokestatic index, 3)) (kk : ∀ S1 : GS, S1 = gx_row k (va_cpy (S k) (S k) sp.toNatClampNeg dp.toNatClampNeg nn.toNatClampNeg) S → GV p l e R s m args below meth c Q nL D cl A wd S1 (pc + 3) L st) : GV p l e R s m args below meth c Q nL D cl A wd S pc L (.int nn :: .int dp :: .ref a :: .int sp :: .ref a :: st) := by
  obtain ⟨cA, t0, h6, h7, h8⟩ := h
  intro H locs ls g1 g2 g3 g4
  refine va_copyi C.1.1 C.1.2.1 (C.1.2.2.1.trans g1.1.symm) C.1.2.2.2.1 (C.1.2.2.2.2 _ hlink) (C.1.2.2.2.2 _ hnat) (C.1.2.2.2.2 _ hstat) (C.1.2.2.2.2 _ hini) C.2.1 g2 g3 g4 q q t0 t0 (h6 S) (h6 S) h8 h8 rfl h1 h2 h3 h4 h5 (fun _ _ => rfl) hframes hlocals d (fun H1 locs1 e2 e3 e4 => ?_)
  rw [h7 S] at e2 e3
  exact kk _ rfl H1 locs1 ls g1 e2 e3 e4
/-! an object of the world -/
def GO (wd : GS → va_W) (cl : List vw_C) (q a ci : Nat) (Cn : String) (T : u_T) (N : Nat) (fs : GS → List Value) : Prop :=
  (∀ S : GS, (wd S)[q]? = some (a, .inr (ci, fs S))) ∧ cl[ci]? = some (Cn, T, N)
theorem gx_get (C : GC p s m args c cc nL own Ts D cl tys A) {q a ci N : Nat} {Cn : String} {T : u_T} {fs : GS → List Value} (h : GO wd cl q a ci Cn T N fs) (hin : ∀ w ∈ u_ws Cn T N, w ∈ Ts) {index : Nat} (k : Nat) (hk : k < N) (hlink : Cond.fieldLink own index (T k).1 (T k).2.1 (T k).2.2.1 ∈ Ts) {v : Value} (hv : (fs S)[k]? = some v) (d : decode cc pc = .ok (.getfield index, 3)) (kk : GV p l e R s m args below meth c Q nL D cl A wd S (pc + 3) L (v :: st)) : GV p l e R s m args below meth c Q nL D cl A wd S pc L (.ref a :: st) :=
  fun H locs ls h1 h2 h3 h4 => va_get C.1.1 C.1.2.1 C.1.2.2.2.2 hin C.1.2.2.2.1 C.2.1 h2 q (h.1 S) h.2 k hk (C.1.2.2.2.2 _ hlink) (fun _ h9 => h9) hv d (kk H locs ls h1 h2 h3 h4)
theorem gx_put (C : GC p s m args c cc nL own Ts D cl tys A) {q a ci N : Nat} {Cn : String} {T : u_T} {fs : GS → List Value} (h : GO wd cl q a ci Cn T N fs) (hin : ∀ w ∈ u_ws Cn T N, w ∈ Ts) (ty0 : Nat → FieldType) (hty : ∀ k, k < N → parseFieldDescriptor (T k).2.2.1 = some (ty0 k)) (hnm : ∀ a, a < N → ∀ b, b < N → a ≠ b → (T a).2.1 ≠ (T b).2.1) {index : Nat} (k : Nat) (hk : k < N) (hlink : Cond.fieldLink own index (T k).1 (T k).2.1 (T k).2.2.1 ∈ Ts) (hfin : (T k).2.2.2 = false) (hd : parseFieldDescriptor (T k).2.2.1 = some .int) (hl : k < (fs S).length) {v : Int32} {j : Nat} (hw : (wd S).set q (a, .inr (ci, (fs S).set k (.int v))) = wd (gx_set 100 j v S)) (d : decode cc pc = .ok (.putfield index, 3)) (kk : ∀ S1 : GS, S1 = gx_set 100 j v S → GV p l e R s m args below meth c Q nL D cl A wd S1 (pc + 3) L st) : GV p l e R s m args below meth c Q nL D cl A wd S pc L (.int v :: .ref a :: st) := by
  intro H locs ls h1 h2 h3 h4
  refine va_put C.1.1 C.1.2.1 C.1.2.2.2.2 hin ty0 hty hnm C.1.2.2.2.1 C.2.1 h2 h3 h4 q (h.1 S) h.2 k hk (C.1.2.2.2.2 _ hlink) (fun _ h9 => h9) hfin (ty := .int) (v := .int v) hd rfl rfl hl d (fun H1 locs1 g2 g3 g4 => ?_)
  rw [hw] at g2 g3
  exact kk _ rfl H1 locs1 ls h1 g2 g3 g4
/-! contracts over a world: the answer and the new contents by a postcondition -/
abbrev GP (wd : GS → va_W) (D : va_G) (cl : List vw_C) (tys : List (ClassId × FieldType)) (S : GS) (sz : Nat) : State → Prop := fun U => U.heap.size = sz ∧ va_P D cl (wd S) U.heap ∧ va_K D cl tys U ∧ va_D (fun _ => True) (wd S)
abbrev GB (wd : GS → va_W) (D : va_G) (cl : List vw_C) (tys : List (ClassId × FieldType)) (A : Nat → Prop) : GS → State → Prop := fun S t => va_P D cl (wd S) t.heap ∧ va_K D cl tys t ∧ va_D A (wd S)
def MetI (l : Launch) (y : MethodName) (ws : List Cond) (rm : Room) (D : va_G) (cl : List vw_C) (tys : List (ClassId × FieldType)) (wd : GS → va_W) (av : List Value) (S : GS) (post : Int32 → GS → Prop) : Prop :=
  ∀ sz : Nat, Met l y ws rm (va_Pc av (GP wd D cl tys S sz)) (va_Qi post (GB wd D cl tys (va_A (wd S) sz)) (va_A (wd S) sz)) 0 0 (va_A (wd S) sz)
def MetV (l : Launch) (y : MethodName) (ws : List Cond) (rm : Room) (D : va_G) (cl : List vw_C) (tys : List (ClassId × FieldType)) (wd : GS → va_W) (av : List Value) (S : GS) (post : GS → Prop) : Prop :=
  ∀ sz : Nat, Met l y ws rm (va_Pc av (GP wd D cl tys S sz)) (va_Qv post (GB wd D cl tys (va_A (wd S) sz)) (va_A (wd S) sz)) 0 0 (va_A (wd S) sz)
theorem gx_blind {av : List Value} {sz : Nat} : FrameBlind (va_Pc av (GP wd D cl tys S sz)) := fun a U g mk q => by
  obtain ⟨q0, q1, qP, qK, qD⟩ := q
  exact ⟨q0, q1, qP, va_K.moved (u := U) (U := U.calling g mk a) (Vm.Alike.refl U.vm) qK, qD⟩
theorem gx_D {A : Nat → Prop} {w1 w2 : va_W} (he : w2.map (fun q => q.1) = w1.map (fun q => q.1)) (h : va_D A w1) : va_D A w2 := by
  have key : ∀ (k : Nat) (q : Nat × va_E), w2[k]? = some q → ∃ q0, w1[k]? = some q0 ∧ q0.1 = q.1 := by
    intro k q hk
    have h1 : (w2.map (fun q => q.1))[k]? = some q.1 := by rw [List.getElem?_map, hk]; rfl
    rw [he, List.getElem?_map] at h1
    cases h2 : w1[k]? with
    | none => rw [h2] at h1; cases h1
    | some q0 => rw [h2] at h1; exact ⟨q0, rfl, Option.some.inj h1⟩
  refine ⟨fun i j x y hi hj hxy => ?_, fun k q hk => ?_⟩
  · obtain ⟨x0, a1, a2⟩ := key i x hi
    obtain ⟨y0, b1, b2⟩ := key j y hj
    exact h.1 i j x0 y0 a1 b1 (a2.trans (hxy.trans b2.symm))
  · obtain ⟨q0, a1, a2⟩ := key k q hk
    rw [← a2]; exact h.2 k q0 a1
theorem gx_free (C : GC p s m args c cc nL own Ts D cl tys A) {H : Heap} {locs : List Loc} (h3 : va_D A (wd S)) (h4 : va_S A s.heap H locs) : ∀ q, va_A (wd S) H.size q → A q := by
  intro q h
  rcases h with ⟨k, e, hk⟩ | hq
  · exact h3.2 k _ hk
  · exact C.2.2.1 q (Nat.le_trans h4.1 hq)
theorem gx_good (hg : ∀ w ∈ Ts, goodWord w = true) {L : List Cond} (h : ∀ w ∈ L, w ∈ Ts) : GoodIn Ts L := fun w hw => ⟨h w hw, good_of_word (hg w (h w hw))⟩
theorem gx_cwV (C : GC p s m args c cc nL own Ts D cl tys A) {y : MethodName} {bytes : ByteArray} {maxL index : Nat} {ret : Option FieldType} {rm : Room} {Cn : String} (n : Nat) (h1 : Cond.methodLink own index y ∈ Ts) (h2 : Cond.instanceMethod y ∈ Ts) (h3 : Cond.selects Cn y y ∈ Ts) (h4 : Cond.initialized Cn ∈ Ts) (h5 : Cond.code y bytes maxL ret ∈ Ts) (hrc : rm.cells = 0) (hrs : rm.slots = 0) (hd : y.cls = Cn ∧ y.cls ≠ "java/lang/invoke/MethodHandle" ∧ y.cls ≠ "java/lang/invoke/VarHandle" ∧ (parseMethodDescriptor y.desc).map (fun d => d.parameters.length) = some n) (hR : rm.frames + 1 ≤ R.frames ∧ 8 + (maxL + 11) + rm.locals ≤ R.locals) : CallW R s args own Cn index y bytes maxL ret (Cond.code y bytes maxL ret :: Ts) rm 0 0 n := by
  refine cwV n C.1.2.2.2.2 (gx_good C.2.2.2 ?_) rfl hrc hrs hd hR
  intro w hw
  unfold wsV at hw
  rcases List.mem_append.mp hw with hw | hw
  · rcases List.mem_cons.mp hw with rfl | hw
    · exact h1
    · rcases List.mem_cons.mp hw with rfl | hw
      · exact h2
      · rcases List.mem_cons.mp hw with rfl | hw
        · exact h3
        · rw [List.mem_singleton.mp hw]; exact h4
  · rcases List.mem_cons.mp hw with rfl | hw
    · exact h5
    · exact hw
theorem gx_cwS (C : GC p s m args c cc nL own Ts D cl tys A) {y : MethodName} {bytes : ByteArray} {maxL index : Nat} {ret : Option FieldType} {rm : Room} (n : Nat) (h1 : Cond.methodLink own index y ∈ Ts) (h2 : Cond.static y ∈ Ts) (h4 : Cond.initialized own ∈ Ts) (h5 : Cond.code y bytes maxL ret ∈ Ts) (hrc : rm.cells = 0) (hrs : rm.slots = 0) (hd : y.cls = own ∧ y.cls ≠ "java/lang/invoke/MethodHandle" ∧ y.cls ≠ "java/lang/invoke/VarHandle" ∧ (parseMethodDescriptor y.desc).map (fun d => d.parameters.length) = some n) (hR : rm.frames + 1 ≤ R.frames ∧ 8 + (maxL + 11) + rm.locals ≤ R.locals) : CallB R s args own index y bytes maxL ret (Cond.code y bytes maxL ret :: Ts) rm 0 0 n ∧ (Cond.static y).before args s = true := by
  refine cwS n C.1.2.2.2.2 (gx_good C.2.2.2 ?_) rfl hrc hrs hd hR
  intro w hw
  unfold wsS at hw
  rcases List.mem_append.mp hw with hw | hw
  · rcases List.mem_cons.mp hw with rfl | hw
    · exact h1
    · rcases List.mem_cons.mp hw with rfl | hw
      · exact h2
      · rw [List.mem_singleton.mp hw]; exact h4
  · rcases List.mem_cons.mp hw with rfl | hw
    · exact h5
    · exact hw
theorem gx_calli (C : GC p s m args c cc nL own Ts D cl tys A) {y : MethodName} {rm : Room} {bytes : ByteArray} {maxL n index q b ci N : Nat} {ret : Option FieldType} {Cn : String} {T : u_T} {fs : GS → List Value} {As rest : List Value} {post : Int32 → GS → Prop} (hM : MetI l y (Cond.code y bytes maxL ret :: Ts) rm D cl tys wd (.ref b :: As) S post) (cw : CallW R s args own Cn index y bytes maxL ret (Cond.code y bytes maxL ret :: Ts) rm 0 0 n) (ho : GO wd cl q b ci Cn T N fs) (hn : As.length = n) (hw : (rest.map fun v => v.category).sum ≤ 8) (d : decode cc pc = .ok (.invokevirtual index, 3)) (hAd : ∀ S' : GS, (wd S').map (fun q => q.1) = (wd S).map (fun q => q.1)) {st0 : List Value} (hst : st0 = As.reverse ++ .ref b :: rest) (kk : ∀ (r : Int32) (S' : GS), post r S' → GV p l e R s m args below meth c Q nL D cl A wd S' (pc + 3) L (.int r :: rest)) : GV p l e R s m args below meth c Q nL D cl A wd S pc L st0 := by
  intro H locs ls h1 h2 h3 h4
  have hFc := gx_free C h3 h4
  refine va_calli (va_runV (As := As) (rest := rest) C.1 (hM H.size) cw ⟨gx_blind, va_recv C.2.1 h2 ho.2 (ho.1 S), fun U hU hW => ⟨rfl, by rw [hU], by rw [hU]; exact h2, va_K.moved hW.alike C.2.1, h3.weaken (fun _ _ _ _ => trivial)⟩⟩ rfl hn h1.1 hst (lv_room hw) d ⟨Nat.zero_le _, Nat.zero_le _⟩) h4 (fun q _ h => hFc q h) hFc (fun r u t H1 locs1 ht hvm hp hB hz hk hS => ?_)
  obtain ⟨hP1, hK1, hD1⟩ := hB
  rw [ht] at hP1
  exact kk r u hp H1 locs1 ls h1 hP1 (gx_D (hAd u) h3) hS
theorem gx_callv (C : GC p s m args c cc nL own Ts D cl tys A) {y : MethodName} {rm : Room} {bytes : ByteArray} {maxL n index q b ci N : Nat} {ret : Option FieldType} {Cn : String} {T : u_T} {fs : GS → List Value} {As rest : List Value} {post : GS → Prop} (hM : MetV l y (Cond.code y bytes maxL ret :: Ts) rm D cl tys wd (.ref b :: As) S post) (cw : CallW R s args own Cn index y bytes maxL ret (Cond.code y bytes maxL ret :: Ts) rm 0 0 n) (ho : GO wd cl q b ci Cn T N fs) (hn : As.length = n) (hw : (rest.map fun v => v.category).sum ≤ 8) (d : decode cc pc = .ok (.invokevirtual index, 3)) (hAd : ∀ S' : GS, (wd S').map (fun q => q.1) = (wd S).map (fun q => q.1)) {st0 : List Value} (hst : st0 = As.reverse ++ .ref b :: rest) (kk : ∀ (S' : GS), post S' → GV p l e R s m args below meth c Q nL D cl A wd S' (pc + 3) L rest) : GV p l e R s m args below meth c Q nL D cl A wd S pc L st0 := by
  intro H locs ls h1 h2 h3 h4
  have hFc := gx_free C h3 h4
  refine va_callv (va_runV (As := As) (rest := rest) C.1 (hM H.size) cw ⟨gx_blind, va_recv C.2.1 h2 ho.2 (ho.1 S), fun U hU hW => ⟨rfl, by rw [hU], by rw [hU]; exact h2, va_K.moved hW.alike C.2.1, h3.weaken (fun _ _ _ _ => trivial)⟩⟩ rfl hn h1.1 hst (lv_room hw) d ⟨Nat.zero_le _, Nat.zero_le _⟩) h4 (fun q _ h => hFc q h) hFc (fun u t H1 locs1 ht hvm hp hB hz hk hS => ?_)
  obtain ⟨hP1, hK1, hD1⟩ := hB
  rw [ht] at hP1
  exact kk u hp H1 locs1 ls h1 hP1 (gx_D (hAd u) h3) hS
theorem gx_calls (C : GC p s m args c cc nL own Ts D cl tys A) {y : MethodName} {rm : Room} {bytes : ByteArray} {maxL n index : Nat} {ret : Option FieldType} {As rest : List Value} {post : Int32 → GS → Prop} (hM : MetI l y (Cond.code y bytes maxL ret :: Ts) rm D cl tys wd As S post) (cw : CallB R s args own index y bytes maxL ret (Cond.code y bytes maxL ret :: Ts) rm 0 0 n ∧ (Cond.static y).before args s = true) (hn : As.length = n) (hw : (rest.map fun v => v.category).sum ≤ 8) (d : decode cc pc = .ok (.invokestatic index, 3)) (hAd : ∀ S' : GS, (wd S').map (fun q => q.1) = (wd S).map (fun q => q.1)) {st0 : List Value} (hst : st0 = As.reverse ++ rest) (kk : ∀ (r : Int32) (S' : GS), post r S' → GV p l e R s m args below meth c Q nL D cl A wd S' (pc + 3) L (.int r :: rest)) : GV p l e R s m args below meth c Q nL D cl A wd S pc L st0 := by
  intro H locs ls h1 h2 h3 h4
  have hFc := gx_free C h3 h4
  refine va_calli (va_runS (As := As) (rest := rest) C.1 (hM H.size) cw ⟨gx_blind, fun U hU hW => ⟨rfl, by rw [hU], by rw [hU]; exact h2, va_K.moved hW.alike C.2.1, h3.weaken (fun _ _ _ _ => trivial)⟩⟩ rfl hn h1.1 hst (lv_room hw) d ⟨Nat.zero_le _, Nat.zero_le _⟩) h4 (fun q _ h => hFc q h) hFc (fun r u t H1 locs1 ht hvm hp hB hz hk hS => ?_)
  obtain ⟨hP1, hK1, hD1⟩ := hB
  rw [ht] at hP1
  exact kk r u hp H1 locs1 ls h1 hP1 (gx_D (hAd u) h3) hS
theorem gx_iret (C : GC p s m args c cc nL own Ts D cl tys A) {post : Int32 → GS → Prop} {r : Int32} (hr : meth.sig.returnType = some .int) (hlocks : meth.locks = false) (d : decode cc pc = .ok (.ireturn, 1)) (hp : post r S) : GV p l e R s m args below meth c (MQ below (va_Qi post (GB wd D cl tys A) A) args s 0 0 A) nL D cl A wd S pc L [.int r] :=
  fun H locs ls h1 h2 h3 h4 => W.iret C.1.1 C.1.2.1 hr (fun t ht hW => ⟨⟨r, S, rfl, hp, by rw [ht]; exact h2, va_K.moved hW.alike C.2.1, h3⟩, h4.F ht⟩) h4.2.2 d hlocks
theorem gx_zret (C : GC p s m args c cc nL own Ts D cl tys A) {post : Int32 → GS → Prop} {r : Int32} (hr : meth.sig.returnType = some .boolean) (hlocks : meth.locks = false) (d : decode cc pc = .ok (.ireturn, 1)) (hp : post r S) (hn : narrow .boolean (.int r) = .int r) : GV p l e R s m args below meth c (MQ below (va_Qi post (GB wd D cl tys A) A) args s 0 0 A) nL D cl A wd S pc L [.int r] :=
  fun H locs ls h1 h2 h3 h4 => W.zret C.1.1 C.1.2.1 hr hn (fun t ht hW => ⟨⟨r, S, rfl, hp, by rw [ht]; exact h2, va_K.moved hW.alike C.2.1, h3⟩, h4.F ht⟩) h4.2.2 d hlocks
theorem gx_vret (C : GC p s m args c cc nL own Ts D cl tys A) {post : GS → Prop} (hr : meth.sig.returnType = none) (hlocks : meth.locks = false) (d : decode cc pc = .ok (.return_, 1)) (hp : post S) : GV p l e R s m args below meth c (MQ below (va_Qv post (GB wd D cl tys A) A) args s 0 0 A) nL D cl A wd S pc L [] :=
  fun H locs ls h1 h2 h3 h4 => W.vret C.1.1 C.1.2.1 hr (fun t ht hW => ⟨⟨S, rfl, hp, by rw [ht]; exact h2, va_K.moved hW.alike C.2.1, h3⟩, h4.F ht⟩) h4.2.2 d hlocks
end GXA
/-! a method's contract out of its walk -/
theorem gx_metI {l : Launch} {y : MethodName} {Ts : List Cond} {rm : Room} {cc : ByteArray} {maxL : Nat} {D : va_G} {cl : List vw_C} {tys : List (ClassId × FieldType)} {wd : GS → va_W} {av : List Value} {S : GS} {post : Int32 → GS → Prop} {ret : Option FieldType} (hy : plainName y.cls = true) (hgood : ∀ w ∈ Ts, goodWord w = true) (hlen : (lg_sl av).length ≤ maxL)
    (body : ∀ (p : Program) (e : Env) (s : State) (m : MethodId) (args : Array Value) (below : List Frame) (meth : Method) (c : Code) (A : Nat → Prop), GC p s m args c cc maxL y.cls Ts D cl tys A → meth.sig.returnType = ret → meth.locks = false → GV p l e rm s m args below meth c (MQ below (va_Qi post (GB wd D cl tys A) A) args s 0 0 A) maxL D cl A wd S 0 (lv_args 0 av) []) : MetI l y (Cond.code y cc maxL ret :: Ts) rm D cl tys wd av S post := by
  intro sz
  refine Met.ofW (cc := cc) (maxL := maxL) (ret := ret) hy rfl ?_
  intro p e s m args below meth c s₁ B hml hv
  obtain ⟨rfl, hsz, hP, hK, hD0⟩ := hv
  subst hsz
  rw [lg_entry_eq]
  refine body p e s m av.toArray below meth c (va_A (wd S) s.heap.size) ⟨⟨B.exec, B.bytes, hml, findClass_of_methodNamed B.named, fun w hw => atoms_spec (ws := Cond.code y cc maxL ret :: Ts) B.pre w (List.mem_cons_of_mem _ hw)⟩, hK, fun q h => Or.inr h, hgood⟩ B.returns B.notSynchronized s.heap [] _ (lv_entry av hlen) hP hD0.self va_S.rf
theorem gx_metV {l : Launch} {y : MethodName} {Ts : List Cond} {rm : Room} {cc : ByteArray} {maxL : Nat} {D : va_G} {cl : List vw_C} {tys : List (ClassId × FieldType)} {wd : GS → va_W} {av : List Value} {S : GS} {post : GS → Prop} {ret : Option FieldType} (hy : plainName y.cls = true) (hgood : ∀ w ∈ Ts, goodWord w = true) (hlen : (lg_sl av).length ≤ maxL)
    (body : ∀ (p : Program) (e : Env) (s : State) (m : MethodId) (args : Array Value) (below : List Frame) (meth : Method) (c : Code) (A : Nat → Prop), GC p s m args c cc maxL y.cls Ts D cl tys A → meth.sig.returnType = ret → meth.locks = false → GV p l e rm s m args below meth c (MQ below (va_Qv post (GB wd D cl tys A) A) args s 0 0 A) maxL D cl A wd S 0 (lv_args 0 av) []) : MetV l y (Cond.code y cc maxL ret :: Ts) rm D cl tys wd av S post := by
  intro sz
  refine Met.ofW (cc := cc) (maxL := maxL) (ret := ret) hy rfl ?_
  intro p e s m args below meth c s₁ B hml hv
  obtain ⟨rfl, hsz, hP, hK, hD0⟩ := hv
  subst hsz
  rw [lg_entry_eq]
  refine body p e s m av.toArray below meth c (va_A (wd S) s.heap.size) ⟨⟨B.exec, B.bytes, hml, findClass_of_methodNamed B.named, fun w hw => atoms_spec (ws := Cond.code y cc maxL ret :: Ts) B.pre w (List.mem_cons_of_mem _ hw)⟩, hK, fun q h => Or.inr h, hgood⟩ B.returns B.notSynchronized s.heap [] _ (lv_entry av hlen) hP hD0.self va_S.rf
end
section
/-! The two worlds: the class's objects (o 0: CountedObjects, o 5: its FreeChunks) and its arrays, and the reference's. -/
def xw (cI cZ : ClassId) (o : Nat → Nat) (W E : Nat) (S : GS) : va_W :=
  [(o 0, .inr (0, [.ref (o 1), .ref (o 2), .ref (o 3), .ref (o 4), .ref (o 5), .ref (o 6), .ref (o 7), .int (S 100 1)])), (o 1, .inl (cI, W, .inl (S 0))), (o 2, .inl (cI, E + 1, .inl (S 1))), (o 3, .inl (cI, E + 1, .inl (S 2))), (o 4, .inl (cI, 8, .inl (S 3))),
    (o 5, .inr (1, [.ref (o 8), .ref (o 9), .int (S 100 0)])), (o 6, .inl (cZ, E + 1, .inl (S 4))), (o 7, .inl (cI, E, .inl (S 5))), (o 8, .inl (cI, W, .inl (S 6))), (o 9, .inl (cI, W, .inl (S 7)))]
section XWA
variable {cI cZ : ClassId} {o : Nat → Nat} {W E : Nat}
theorem xw_ad (S S' : GS) : (xw cI cZ o W E S').map (fun q => q.1) = (xw cI cZ o W E S).map (fun q => q.1) := rfl
theorem xa_words : GA (xw cI cZ o W E) [(cI, .int), (cZ, .boolean)] 1 (o 1) 0 W .int := ⟨cI, 0, fun _ => rfl, fun _ _ => rfl, rfl⟩
theorem xa_addresses : GA (xw cI cZ o W E) [(cI, .int), (cZ, .boolean)] 2 (o 2) 1 (E + 1) .int := ⟨cI, 0, fun _ => rfl, fun _ _ => rfl, rfl⟩
theorem xa_counts : GA (xw cI cZ o W E) [(cI, .int), (cZ, .boolean)] 3 (o 3) 2 (E + 1) .int := ⟨cI, 0, fun _ => rfl, fun _ _ => rfl, rfl⟩
theorem xa_registers : GA (xw cI cZ o W E) [(cI, .int), (cZ, .boolean)] 4 (o 4) 3 8 .int := ⟨cI, 0, fun _ => rfl, fun _ _ => rfl, rfl⟩
theorem xa_isReached : GA (xw cI cZ o W E) [(cI, .int), (cZ, .boolean)] 6 (o 6) 4 (E + 1) .boolean := ⟨cZ, 1, fun _ => rfl, fun _ _ => rfl, rfl⟩
theorem xa_reachedEntries : GA (xw cI cZ o W E) [(cI, .int), (cZ, .boolean)] 7 (o 7) 5 E .int := ⟨cI, 0, fun _ => rfl, fun _ _ => rfl, rfl⟩
theorem xa_starts : GA (xw cI cZ o W E) [(cI, .int), (cZ, .boolean)] 8 (o 8) 6 W .int := ⟨cI, 0, fun _ => rfl, fun _ _ => rfl, rfl⟩
theorem xa_sizes : GA (xw cI cZ o W E) [(cI, .int), (cZ, .boolean)] 9 (o 9) 7 W .int := ⟨cI, 0, fun _ => rfl, fun _ _ => rfl, rfl⟩
theorem xo_this : GO (xw cI cZ o W E) gx_cl 0 (o 0) 0 RX TX 8 (fun S => [.ref (o 1), .ref (o 2), .ref (o 3), .ref (o 4), .ref (o 5), .ref (o 6), .ref (o 7), .int (S 100 1)]) := ⟨fun _ => rfl, rfl⟩
theorem xo_fc : GO (xw cI cZ o W E) gx_cl 5 (o 5) 1 RF TF 3 (fun S => [.ref (o 8), .ref (o 9), .int (S 100 0)]) := ⟨fun _ => rfl, rfl⟩
theorem xp_held (S : GS) (v : Int32) : (xw cI cZ o W E S).set 5 (o 5, .inr (1, (([.ref (o 8), .ref (o 9), .int (S 100 0)] : List Value)).set 2 (.int v))) = xw cI cZ o W E (gx_set 100 0 v S) := rfl
theorem xp_reachedHeld (S : GS) (v : Int32) : (xw cI cZ o W E S).set 0 (o 0, .inr (0, (([.ref (o 1), .ref (o 2), .ref (o 3), .ref (o 4), .ref (o 5), .ref (o 6), .ref (o 7), .int (S 100 1)] : List Value)).set 7 (.int v))) = xw cI cZ o W E (gx_set 100 1 v S) := rfl
end XWA
def mw (cI cZ : ClassId) (o : Nat → Nat) (S : GS) : va_W :=
  [(o 0, .inr (2, [.int (S 100 0), .int (S 100 1), .int (S 100 2), .ref (o 1), .ref (o 2), .ref (o 3), .ref (o 4), .ref (o 5), .ref (o 6), .int (S 100 3), .ref (o 7), .ref (o 8), .ref (o 9), .int (S 100 4), .int (S 100 5), .ref (o 10), .ref (o 11), .ref (o 12)])), (o 1, .inl (cI, 8, .inl (S 0))), (o 2, .inl (cZ, 41, .inl (S 1))), (o 3, .inl (cI, 41, .inl (S 2))), (o 4, .inl (cI, 41, .inl (S 3))),
    (o 5, .inl (cI, 41, .inl (S 4))), (o 6, .inl (cI, 400, .inl (S 5))), (o 7, .inl (cI, 400, .inl (S 6))), (o 8, .inl (cI, 400, .inl (S 7))), (o 9, .inl (cI, 400, .inl (S 8))), (o 10, .inl (cI, 41, .inl (S 9))), (o 11, .inl (cI, 41, .inl (S 10))), (o 12, .inl (cZ, 41, .inl (S 11)))]
section MWA
variable {cI cZ : ClassId} {o : Nat → Nat}
theorem mw_ad (S S' : GS) : (mw cI cZ o S').map (fun q => q.1) = (mw cI cZ o S).map (fun q => q.1) := rfl
theorem ma_registers : GA (mw cI cZ o) [(cI, .int), (cZ, .boolean)] 1 (o 1) 0 8 .int := ⟨cI, 0, fun _ => rfl, fun _ _ => rfl, rfl⟩
theorem ma_lives : GA (mw cI cZ o) [(cI, .int), (cZ, .boolean)] 2 (o 2) 1 41 .boolean := ⟨cZ, 1, fun _ => rfl, fun _ _ => rfl, rfl⟩
theorem ma_addresses : GA (mw cI cZ o) [(cI, .int), (cZ, .boolean)] 3 (o 3) 2 41 .int := ⟨cI, 0, fun _ => rfl, fun _ _ => rfl, rfl⟩
theorem ma_sizes : GA (mw cI cZ o) [(cI, .int), (cZ, .boolean)] 4 (o 4) 3 41 .int := ⟨cI, 0, fun _ => rfl, fun _ _ => rfl, rfl⟩
theorem ma_counts : GA (mw cI cZ o) [(cI, .int), (cZ, .boolean)] 5 (o 5) 4 41 .int := ⟨cI, 0, fun _ => rfl, fun _ _ => rfl, rfl⟩
theorem ma_word : GA (mw cI cZ o) [(cI, .int), (cZ, .boolean)] 6 (o 6) 5 400 .int := ⟨cI, 0, fun _ => rfl, fun _ _ => rfl, rfl⟩
theorem ma_begins : GA (mw cI cZ o) [(cI, .int), (cZ, .boolean)] 7 (o 7) 6 400 .int := ⟨cI, 0, fun _ => rfl, fun _ _ => rfl, rfl⟩
theorem ma_lengths : GA (mw cI cZ o) [(cI, .int), (cZ, .boolean)] 8 (o 8) 7 400 .int := ⟨cI, 0, fun _ => rfl, fun _ _ => rfl, rfl⟩
theorem ma_came : GA (mw cI cZ o) [(cI, .int), (cZ, .boolean)] 9 (o 9) 8 400 .int := ⟨cI, 0, fun _ => rfl, fun _ _ => rfl, rfl⟩
theorem ma_goes : GA (mw cI cZ o) [(cI, .int), (cZ, .boolean)] 10 (o 10) 9 41 .int := ⟨cI, 0, fun _ => rfl, fun _ _ => rfl, rfl⟩
theorem ma_next : GA (mw cI cZ o) [(cI, .int), (cZ, .boolean)] 11 (o 11) 10 41 .int := ⟨cI, 0, fun _ => rfl, fun _ _ => rfl, rfl⟩
theorem ma_reached : GA (mw cI cZ o) [(cI, .int), (cZ, .boolean)] 12 (o 12) 11 41 .boolean := ⟨cZ, 1, fun _ => rfl, fun _ _ => rfl, rfl⟩
abbrev mo_fs (o : Nat → Nat) (S : GS) : List Value := [.int (S 100 0), .int (S 100 1), .int (S 100 2), .ref (o 1), .ref (o 2), .ref (o 3), .ref (o 4), .ref (o 5), .ref (o 6), .int (S 100 3), .ref (o 7), .ref (o 8), .ref (o 9), .int (S 100 4), .int (S 100 5), .ref (o 10), .ref (o 11), .ref (o 12)]
theorem mo_this : GO (mw cI cZ o) gx_cl 0 (o 0) 2 RM TM 18 (fun S => mo_fs o S) := ⟨fun _ => rfl, rfl⟩
theorem mp_thrown (S : GS) (v : Int32) : (mw cI cZ o S).set 0 (o 0, .inr (2, (mo_fs o S).set 0 (.int v))) = mw cI cZ o (gx_set 100 0 v S) := rfl
theorem mp_frees (S : GS) (v : Int32) : (mw cI cZ o S).set 0 (o 0, .inr (2, (mo_fs o S).set 9 (.int v))) = mw cI cZ o (gx_set 100 3 v S) := rfl
theorem mp_clock (S : GS) (v : Int32) : (mw cI cZ o S).set 0 (o 0, .inr (2, (mo_fs o S).set 13 (.int v))) = mw cI cZ o (gx_set 100 4 v S) := rfl
theorem mp_going (S : GS) (v : Int32) : (mw cI cZ o S).set 0 (o 0, .inr (2, (mo_fs o S).set 14 (.int v))) = mw cI cZ o (gx_set 100 5 v S) := rfl
end MWA
theorem ln_X_144 : Cond.methodLink RX 144 arraycopyName ∈ wsA := wsA_in (i := 130) (by decide +kernel) (by decide +kernel)
theorem ln_F_34 : Cond.methodLink RF 34 arraycopyName ∈ wsA := wsA_in (i := 291) (by decide +kernel) (by decide +kernel)
theorem na_copy : Cond.native arraycopyName ∈ wsA := wsA_in (i := 132) (by decide +kernel) (by decide +kernel)
theorem sm_copy : Cond.static arraycopyName ∈ wsA := wsA_in (i := 131) (by decide +kernel) (by decide +kernel)
end
section
theorem dF_init_0 : decode cF_init 0 = .ok (.aload_n 0, 1) := by decide +kernel
theorem dF_init_1 : decode cF_init 1 = .ok (.invokespecial 3, 3) := by decide +kernel
theorem dF_init_4 : decode cF_init 4 = .ok (.aload_n 0, 1) := by decide +kernel
theorem dF_init_5 : decode cF_init 5 = .ok (.iload_n 1, 1) := by decide +kernel
theorem dF_init_6 : decode cF_init 6 = .ok (.newarray .int, 2) := by decide +kernel
theorem dF_init_8 : decode cF_init 8 = .ok (.putfield 9, 3) := by decide +kernel
theorem dF_init_11 : decode cF_init 11 = .ok (.aload_n 0, 1) := by decide +kernel
theorem dF_init_12 : decode cF_init 12 = .ok (.iload_n 1, 1) := by decide +kernel
theorem dF_init_13 : decode cF_init 13 = .ok (.newarray .int, 2) := by decide +kernel
theorem dF_init_15 : decode cF_init 15 = .ok (.putfield 15, 3) := by decide +kernel
theorem dF_init_18 : decode cF_init 18 = .ok (.aload_n 0, 1) := by decide +kernel
theorem dF_init_19 : decode cF_init 19 = .ok (.getfield 15, 3) := by decide +kernel
theorem dF_init_22 : decode cF_init 22 = .ok (.iconst 0, 1) := by decide +kernel
theorem dF_init_23 : decode cF_init 23 = .ok (.iload_n 1, 1) := by decide +kernel
theorem dF_init_24 : decode cF_init 24 = .ok (.iastore, 1) := by decide +kernel
theorem dF_init_25 : decode cF_init 25 = .ok (.aload_n 0, 1) := by decide +kernel
theorem dF_init_26 : decode cF_init 26 = .ok (.iconst 1, 1) := by decide +kernel
theorem dF_init_27 : decode cF_init 27 = .ok (.putfield 18, 3) := by decide +kernel
theorem dF_init_30 : decode cF_init 30 = .ok (.return_, 1) := by decide +kernel
theorem dF_add_0 : decode cF_add 0 = .ok (.aload_n 0, 1) := by decide +kernel
theorem dF_add_1 : decode cF_add 1 = .ok (.getfield 9, 3) := by decide +kernel
theorem dF_add_4 : decode cF_add 4 = .ok (.aload_n 0, 1) := by decide +kernel
theorem dF_add_5 : decode cF_add 5 = .ok (.getfield 18, 3) := by decide +kernel
theorem dF_add_8 : decode cF_add 8 = .ok (.iload_n 1, 1) := by decide +kernel
theorem dF_add_9 : decode cF_add 9 = .ok (.iastore, 1) := by decide +kernel
theorem dF_add_10 : decode cF_add 10 = .ok (.aload_n 0, 1) := by decide +kernel
theorem dF_add_11 : decode cF_add 11 = .ok (.getfield 15, 3) := by decide +kernel
theorem dF_add_14 : decode cF_add 14 = .ok (.aload_n 0, 1) := by decide +kernel
theorem dF_add_15 : decode cF_add 15 = .ok (.getfield 18, 3) := by decide +kernel
theorem dF_add_18 : decode cF_add 18 = .ok (.iload_n 2, 1) := by decide +kernel
theorem dF_add_19 : decode cF_add 19 = .ok (.iastore, 1) := by decide +kernel
theorem dF_add_20 : decode cF_add 20 = .ok (.aload_n 0, 1) := by decide +kernel
theorem dF_add_21 : decode cF_add 21 = .ok (.dup, 1) := by decide +kernel
theorem dF_add_22 : decode cF_add 22 = .ok (.getfield 18, 3) := by decide +kernel
theorem dF_add_25 : decode cF_add 25 = .ok (.iconst 1, 1) := by decide +kernel
theorem dF_add_26 : decode cF_add 26 = .ok (.iadd, 1) := by decide +kernel
theorem dF_add_27 : decode cF_add 27 = .ok (.putfield 18, 3) := by decide +kernel
theorem dF_add_30 : decode cF_add 30 = .ok (.return_, 1) := by decide +kernel
theorem dF_clear_0 : decode cF_clear 0 = .ok (.aload_n 0, 1) := by decide +kernel
theorem dF_clear_1 : decode cF_clear 1 = .ok (.iconst 0, 1) := by decide +kernel
theorem dF_clear_2 : decode cF_clear 2 = .ok (.putfield 18, 3) := by decide +kernel
theorem dF_clear_5 : decode cF_clear 5 = .ok (.return_, 1) := by decide +kernel
theorem dF_take_0 : decode cF_take 0 = .ok (.aload_n 0, 1) := by decide +kernel
theorem dF_take_1 : decode cF_take 1 = .ok (.iload_n 1, 1) := by decide +kernel
theorem dF_take_2 : decode cF_take 2 = .ok (.invokevirtual 22, 3) := by decide +kernel
theorem dF_take_5 : decode cF_take 5 = .ok (.istore_n 2, 1) := by decide +kernel
theorem dF_take_6 : decode cF_take 6 = .ok (.iload_n 2, 1) := by decide +kernel
theorem dF_take_7 : decode cF_take 7 = .ok (.iconst (-1), 1) := by decide +kernel
theorem dF_take_8 : decode cF_take 8 = .ok (.if_icmp .ne 5, 3) := by decide +kernel
theorem dF_take_11 : decode cF_take 11 = .ok (.iconst (-1), 1) := by decide +kernel
theorem dF_take_12 : decode cF_take 12 = .ok (.ireturn, 1) := by decide +kernel
theorem dF_take_13 : decode cF_take 13 = .ok (.aload_n 0, 1) := by decide +kernel
theorem dF_take_14 : decode cF_take 14 = .ok (.getfield 9, 3) := by decide +kernel
theorem dF_take_17 : decode cF_take 17 = .ok (.iload_n 2, 1) := by decide +kernel
theorem dF_take_18 : decode cF_take 18 = .ok (.iaload, 1) := by decide +kernel
theorem dF_take_19 : decode cF_take 19 = .ok (.istore_n 3, 1) := by decide +kernel
theorem dF_take_20 : decode cF_take 20 = .ok (.aload_n 0, 1) := by decide +kernel
theorem dF_take_21 : decode cF_take 21 = .ok (.getfield 15, 3) := by decide +kernel
theorem dF_take_24 : decode cF_take 24 = .ok (.iload_n 2, 1) := by decide +kernel
theorem dF_take_25 : decode cF_take 25 = .ok (.iaload, 1) := by decide +kernel
theorem dF_take_26 : decode cF_take 26 = .ok (.iload_n 1, 1) := by decide +kernel
theorem dF_take_27 : decode cF_take 27 = .ok (.isub, 1) := by decide +kernel
theorem dF_take_28 : decode cF_take 28 = .ok (.istore 4, 2) := by decide +kernel
theorem dF_take_30 : decode cF_take 30 = .ok (.aload_n 0, 1) := by decide +kernel
theorem dF_take_31 : decode cF_take 31 = .ok (.iload_n 2, 1) := by decide +kernel
theorem dF_take_32 : decode cF_take 32 = .ok (.invokevirtual 26, 3) := by decide +kernel
theorem dF_take_35 : decode cF_take 35 = .ok (.iload 4, 2) := by decide +kernel
theorem dF_take_37 : decode cF_take 37 = .ok (.ifCond .le 12, 3) := by decide +kernel
theorem dF_take_40 : decode cF_take 40 = .ok (.aload_n 0, 1) := by decide +kernel
theorem dF_take_41 : decode cF_take 41 = .ok (.iload_n 3, 1) := by decide +kernel
theorem dF_take_42 : decode cF_take 42 = .ok (.iload_n 1, 1) := by decide +kernel
theorem dF_take_43 : decode cF_take 43 = .ok (.iadd, 1) := by decide +kernel
theorem dF_take_44 : decode cF_take 44 = .ok (.iload 4, 2) := by decide +kernel
theorem dF_take_46 : decode cF_take 46 = .ok (.invokevirtual 30, 3) := by decide +kernel
theorem dF_take_49 : decode cF_take 49 = .ok (.iload_n 3, 1) := by decide +kernel
theorem dF_take_50 : decode cF_take 50 = .ok (.ireturn, 1) := by decide +kernel
theorem dF_bestFor_0 : decode cF_bestFor 0 = .ok (.iconst (-1), 1) := by decide +kernel
theorem dF_bestFor_1 : decode cF_bestFor 1 = .ok (.istore_n 2, 1) := by decide +kernel
theorem dF_bestFor_2 : decode cF_bestFor 2 = .ok (.aload_n 0, 1) := by decide +kernel
theorem dF_bestFor_3 : decode cF_bestFor 3 = .ok (.getfield 18, 3) := by decide +kernel
theorem dF_bestFor_6 : decode cF_bestFor 6 = .ok (.iconst 1, 1) := by decide +kernel
theorem dF_bestFor_7 : decode cF_bestFor 7 = .ok (.isub, 1) := by decide +kernel
theorem dF_bestFor_8 : decode cF_bestFor 8 = .ok (.istore_n 3, 1) := by decide +kernel
theorem dF_bestFor_9 : decode cF_bestFor 9 = .ok (.iload_n 3, 1) := by decide +kernel
theorem dF_bestFor_10 : decode cF_bestFor 10 = .ok (.ifCond .lt 41, 3) := by decide +kernel
theorem dF_bestFor_13 : decode cF_bestFor 13 = .ok (.aload_n 0, 1) := by decide +kernel
theorem dF_bestFor_14 : decode cF_bestFor 14 = .ok (.getfield 15, 3) := by decide +kernel
theorem dF_bestFor_17 : decode cF_bestFor 17 = .ok (.iload_n 3, 1) := by decide +kernel
theorem dF_bestFor_18 : decode cF_bestFor 18 = .ok (.iaload, 1) := by decide +kernel
theorem dF_bestFor_19 : decode cF_bestFor 19 = .ok (.iload_n 1, 1) := by decide +kernel
theorem dF_bestFor_20 : decode cF_bestFor 20 = .ok (.if_icmp .lt 25, 3) := by decide +kernel
theorem dF_bestFor_23 : decode cF_bestFor 23 = .ok (.iload_n 2, 1) := by decide +kernel
theorem dF_bestFor_24 : decode cF_bestFor 24 = .ok (.iconst (-1), 1) := by decide +kernel
theorem dF_bestFor_25 : decode cF_bestFor 25 = .ok (.if_icmp .eq 18, 3) := by decide +kernel
theorem dF_bestFor_28 : decode cF_bestFor 28 = .ok (.aload_n 0, 1) := by decide +kernel
theorem dF_bestFor_29 : decode cF_bestFor 29 = .ok (.getfield 15, 3) := by decide +kernel
theorem dF_bestFor_32 : decode cF_bestFor 32 = .ok (.iload_n 3, 1) := by decide +kernel
theorem dF_bestFor_33 : decode cF_bestFor 33 = .ok (.iaload, 1) := by decide +kernel
theorem dF_bestFor_34 : decode cF_bestFor 34 = .ok (.aload_n 0, 1) := by decide +kernel
theorem dF_bestFor_35 : decode cF_bestFor 35 = .ok (.getfield 15, 3) := by decide +kernel
theorem dF_bestFor_38 : decode cF_bestFor 38 = .ok (.iload_n 2, 1) := by decide +kernel
theorem dF_bestFor_39 : decode cF_bestFor 39 = .ok (.iaload, 1) := by decide +kernel
theorem dF_bestFor_40 : decode cF_bestFor 40 = .ok (.if_icmp .ge 5, 3) := by decide +kernel
theorem dF_bestFor_43 : decode cF_bestFor 43 = .ok (.iload_n 3, 1) := by decide +kernel
theorem dF_bestFor_44 : decode cF_bestFor 44 = .ok (.istore_n 2, 1) := by decide +kernel
theorem dF_bestFor_45 : decode cF_bestFor 45 = .ok (.iinc 3 (-1), 3) := by decide +kernel
theorem dF_bestFor_48 : decode cF_bestFor 48 = .ok (.goto (-39), 3) := by decide +kernel
theorem dF_bestFor_51 : decode cF_bestFor 51 = .ok (.iload_n 2, 1) := by decide +kernel
theorem dF_bestFor_52 : decode cF_bestFor 52 = .ok (.ireturn, 1) := by decide +kernel
theorem dF_remove_0 : decode cF_remove 0 = .ok (.aload_n 0, 1) := by decide +kernel
theorem dF_remove_1 : decode cF_remove 1 = .ok (.dup, 1) := by decide +kernel
theorem dF_remove_2 : decode cF_remove 2 = .ok (.getfield 18, 3) := by decide +kernel
theorem dF_remove_5 : decode cF_remove 5 = .ok (.iconst 1, 1) := by decide +kernel
theorem dF_remove_6 : decode cF_remove 6 = .ok (.isub, 1) := by decide +kernel
theorem dF_remove_7 : decode cF_remove 7 = .ok (.putfield 18, 3) := by decide +kernel
theorem dF_remove_10 : decode cF_remove 10 = .ok (.aload_n 0, 1) := by decide +kernel
theorem dF_remove_11 : decode cF_remove 11 = .ok (.getfield 9, 3) := by decide +kernel
theorem dF_remove_14 : decode cF_remove 14 = .ok (.iload_n 1, 1) := by decide +kernel
theorem dF_remove_15 : decode cF_remove 15 = .ok (.iconst 1, 1) := by decide +kernel
theorem dF_remove_16 : decode cF_remove 16 = .ok (.iadd, 1) := by decide +kernel
theorem dF_remove_17 : decode cF_remove 17 = .ok (.aload_n 0, 1) := by decide +kernel
theorem dF_remove_18 : decode cF_remove 18 = .ok (.getfield 9, 3) := by decide +kernel
theorem dF_remove_21 : decode cF_remove 21 = .ok (.iload_n 1, 1) := by decide +kernel
theorem dF_remove_22 : decode cF_remove 22 = .ok (.aload_n 0, 1) := by decide +kernel
theorem dF_remove_23 : decode cF_remove 23 = .ok (.getfield 18, 3) := by decide +kernel
theorem dF_remove_26 : decode cF_remove 26 = .ok (.iload_n 1, 1) := by decide +kernel
theorem dF_remove_27 : decode cF_remove 27 = .ok (.isub, 1) := by decide +kernel
theorem dF_remove_28 : decode cF_remove 28 = .ok (.invokestatic 34, 3) := by decide +kernel
theorem dF_remove_31 : decode cF_remove 31 = .ok (.aload_n 0, 1) := by decide +kernel
theorem dF_remove_32 : decode cF_remove 32 = .ok (.getfield 15, 3) := by decide +kernel
theorem dF_remove_35 : decode cF_remove 35 = .ok (.iload_n 1, 1) := by decide +kernel
theorem dF_remove_36 : decode cF_remove 36 = .ok (.iconst 1, 1) := by decide +kernel
theorem dF_remove_37 : decode cF_remove 37 = .ok (.iadd, 1) := by decide +kernel
theorem dF_remove_38 : decode cF_remove 38 = .ok (.aload_n 0, 1) := by decide +kernel
theorem dF_remove_39 : decode cF_remove 39 = .ok (.getfield 15, 3) := by decide +kernel
theorem dF_remove_42 : decode cF_remove 42 = .ok (.iload_n 1, 1) := by decide +kernel
theorem dF_remove_43 : decode cF_remove 43 = .ok (.aload_n 0, 1) := by decide +kernel
theorem dF_remove_44 : decode cF_remove 44 = .ok (.getfield 18, 3) := by decide +kernel
theorem dF_remove_47 : decode cF_remove 47 = .ok (.iload_n 1, 1) := by decide +kernel
theorem dF_remove_48 : decode cF_remove 48 = .ok (.isub, 1) := by decide +kernel
theorem dF_remove_49 : decode cF_remove 49 = .ok (.invokestatic 34, 3) := by decide +kernel
theorem dF_remove_52 : decode cF_remove 52 = .ok (.return_, 1) := by decide +kernel
theorem dF_ofSize_0 : decode cF_ofSize 0 = .ok (.iconst 0, 1) := by decide +kernel
theorem dF_ofSize_1 : decode cF_ofSize 1 = .ok (.istore_n 2, 1) := by decide +kernel
theorem dF_ofSize_2 : decode cF_ofSize 2 = .ok (.iconst 0, 1) := by decide +kernel
theorem dF_ofSize_3 : decode cF_ofSize 3 = .ok (.istore_n 3, 1) := by decide +kernel
theorem dF_ofSize_4 : decode cF_ofSize 4 = .ok (.iload_n 3, 1) := by decide +kernel
theorem dF_ofSize_5 : decode cF_ofSize 5 = .ok (.aload_n 0, 1) := by decide +kernel
theorem dF_ofSize_6 : decode cF_ofSize 6 = .ok (.getfield 18, 3) := by decide +kernel
theorem dF_ofSize_9 : decode cF_ofSize 9 = .ok (.if_icmp .ge 22, 3) := by decide +kernel
theorem dF_ofSize_12 : decode cF_ofSize 12 = .ok (.aload_n 0, 1) := by decide +kernel
theorem dF_ofSize_13 : decode cF_ofSize 13 = .ok (.getfield 15, 3) := by decide +kernel
theorem dF_ofSize_16 : decode cF_ofSize 16 = .ok (.iload_n 3, 1) := by decide +kernel
theorem dF_ofSize_17 : decode cF_ofSize 17 = .ok (.iaload, 1) := by decide +kernel
theorem dF_ofSize_18 : decode cF_ofSize 18 = .ok (.iload_n 1, 1) := by decide +kernel
theorem dF_ofSize_19 : decode cF_ofSize 19 = .ok (.if_icmp .ne 6, 3) := by decide +kernel
theorem dF_ofSize_22 : decode cF_ofSize 22 = .ok (.iinc 2 1, 3) := by decide +kernel
theorem dF_ofSize_25 : decode cF_ofSize 25 = .ok (.iinc 3 1, 3) := by decide +kernel
theorem dF_ofSize_28 : decode cF_ofSize 28 = .ok (.goto (-24), 3) := by decide +kernel
theorem dF_ofSize_31 : decode cF_ofSize 31 = .ok (.iload_n 2, 1) := by decide +kernel
theorem dF_ofSize_32 : decode cF_ofSize 32 = .ok (.ireturn, 1) := by decide +kernel
theorem dF_allWords_0 : decode cF_allWords 0 = .ok (.iconst 0, 1) := by decide +kernel
theorem dF_allWords_1 : decode cF_allWords 1 = .ok (.istore_n 1, 1) := by decide +kernel
theorem dF_allWords_2 : decode cF_allWords 2 = .ok (.iconst 0, 1) := by decide +kernel
theorem dF_allWords_3 : decode cF_allWords 3 = .ok (.istore_n 2, 1) := by decide +kernel
theorem dF_allWords_4 : decode cF_allWords 4 = .ok (.iload_n 2, 1) := by decide +kernel
theorem dF_allWords_5 : decode cF_allWords 5 = .ok (.aload_n 0, 1) := by decide +kernel
theorem dF_allWords_6 : decode cF_allWords 6 = .ok (.getfield 18, 3) := by decide +kernel
theorem dF_allWords_9 : decode cF_allWords 9 = .ok (.if_icmp .ge 18, 3) := by decide +kernel
theorem dF_allWords_12 : decode cF_allWords 12 = .ok (.iload_n 1, 1) := by decide +kernel
theorem dF_allWords_13 : decode cF_allWords 13 = .ok (.aload_n 0, 1) := by decide +kernel
theorem dF_allWords_14 : decode cF_allWords 14 = .ok (.getfield 15, 3) := by decide +kernel
theorem dF_allWords_17 : decode cF_allWords 17 = .ok (.iload_n 2, 1) := by decide +kernel
theorem dF_allWords_18 : decode cF_allWords 18 = .ok (.iaload, 1) := by decide +kernel
theorem dF_allWords_19 : decode cF_allWords 19 = .ok (.iadd, 1) := by decide +kernel
theorem dF_allWords_20 : decode cF_allWords 20 = .ok (.istore_n 1, 1) := by decide +kernel
theorem dF_allWords_21 : decode cF_allWords 21 = .ok (.iinc 2 1, 3) := by decide +kernel
theorem dF_allWords_24 : decode cF_allWords 24 = .ok (.goto (-20), 3) := by decide +kernel
theorem dF_allWords_27 : decode cF_allWords 27 = .ok (.iload_n 1, 1) := by decide +kernel
theorem dF_allWords_28 : decode cF_allWords 28 = .ok (.ireturn, 1) := by decide +kernel
end
section
/-- CountedObjects$FreeChunks.add(II)V: a step from head to head -/
def sp_F_add (W E : Nat) (post : GS → Prop) (V : Nat → GS → List Int32 → Prop) (h : Nat) (S : GS) (xs : List Int32) : Prop := match h, xs with
  | 0, [v1, v2] => (vp_in (S 100 0) W ∧ ∀ S1 : GS, S1 = gx_set 6 (S 100 0).toNatClampNeg v1 S → (vp_in (S1 100 0) W ∧ ∀ S2 : GS, S2 = gx_set 7 (S1 100 0).toNatClampNeg v2 S1 → (∀ S3 : GS, S3 = gx_set 100 0 ((S2 100 0) + 1) S2 → post S3)))
  | _, _ => False
def wp_F_add (W E : Nat) (xs : List Int32) (S : GS) (post : GS → Prop) : Prop := ∀ V : Nat → GS → List Int32 → Prop, (∀ h S xs, sp_F_add W E post V h S xs → V h S xs) → V 0 S xs
def vh_F_add (o : Nat → Nat) (G : GS → Nat → List (Nat × Value) → List Value → Prop) (h : Nat) (S : GS) (xs : List Int32) : Prop := match h, xs with
  | 0, [v1, v2] => G S 0 [(0, .ref (o 5)), (1, .int v1), (2, .int v2)] []
  | _, _ => True
set_option maxHeartbeats 4000000 in
set_option maxRecDepth 100000 in
theorem wk_F_add_0 {l : Launch} {dC : Nat → ClassId} {dI : Nat → Nat → Nat} {cI cZ : ClassId} {o : Nat → Nat} {W E : Nat} {p : Program} {e : Env} {s : State} {m : MethodId} {args : Array Value} {below : List Frame} {meth : Method} {c : Code} {A : Nat → Prop} {post : GS → Prop} (C : GC p s m args c cF_add 3 RF wsA (dC, dI) gx_cl [(cI, .int), (cZ, .boolean)] A) (hr : meth.sig.returnType = none) (hlocks : meth.locks = false) (S : GS) (v1 : Int32) (v2 : Int32) (hs : sp_F_add W E post (vh_F_add o (GV p l e { frames := 0, cells := 0, slots := 0, locals := 0 } s m args below meth c (MQ below (va_Qv post (GB (xw cI cZ o W E) (dC, dI) gx_cl [(cI, .int), (cZ, .boolean)] A) A) args s 0 0 A) 3 (dC, dI) gx_cl A (xw cI cZ o W E))) 0 S [v1, v2]) : GV p l e { frames := 0, cells := 0, slots := 0, locals := 0 } s m args below meth c (MQ below (va_Qv post (GB (xw cI cZ o W E) (dC, dI) gx_cl [(cI, .int), (cZ, .boolean)] A) A) args s 0 0 A) 3 (dC, dI) gx_cl A (xw cI cZ o W E) S 0 [(0, .ref (o 5)), (1, .int v1), (2, .int v2)] [] := by
  refine gx_aload_n C dF_add_0 0 rfl rfl ?_
  refine gx_get C xo_fc hi_F 0 (by decide) fl_F_9 rfl dF_add_1 ?_
  refine gx_aload_n C dF_add_4 0 rfl rfl ?_
  refine gx_get C xo_fc hi_F 2 (by decide) fl_F_18 rfl dF_add_5 ?_
  refine gx_iload_n C dF_add_8 1 rfl rfl ?_
  obtain ⟨hin, hs⟩ := hs
  refine gx_iast C xa_starts hin dF_add_9 (fun S1 eS1 => ?_)
  replace hs := hs S1 eS1
  refine gx_aload_n C dF_add_10 0 rfl rfl ?_
  refine gx_get C xo_fc hi_F 1 (by decide) fl_F_15 rfl dF_add_11 ?_
  refine gx_aload_n C dF_add_14 0 rfl rfl ?_
  refine gx_get C xo_fc hi_F 2 (by decide) fl_F_18 rfl dF_add_15 ?_
  refine gx_iload_n C dF_add_18 2 rfl rfl ?_
  obtain ⟨hin, hs⟩ := hs
  refine gx_iast C xa_sizes hin dF_add_19 (fun S2 eS2 => ?_)
  replace hs := hs S2 eS2
  refine gx_aload_n C dF_add_20 0 rfl rfl ?_
  refine gx_dup C dF_add_21 rfl ?_
  refine gx_get C xo_fc hi_F 2 (by decide) fl_F_18 rfl dF_add_22 ?_
  refine gx_iconst (v := 1) C dF_add_25 (by decide) ?_
  refine gx_iadd C dF_add_26 ?_
  refine gx_put C xo_fc hi_F tyF tyF_ok nmF 2 (by decide) fl_F_18 rfl (by decide +kernel) (Nat.le_of_ble_eq_true rfl) (xp_held _ _) dF_add_27 (fun S3 eS3 => ?_)
  replace hs := hs S3 eS3
  exact gx_vret C hr hlocks dF_add_30 hs
set_option maxHeartbeats 4000000 in
set_option maxRecDepth 100000 in
theorem mt_F_add (l : Launch) (dC : Nat → ClassId) (dI : Nat → Nat → Nat) (cI cZ : ClassId) (o : Nat → Nat) (W E : Nat) (v1 : Int32) (v2 : Int32) (S : GS) (post : GS → Prop) (h : wp_F_add W E [v1, v2] S post) : MetV l yF_add (Cond.code yF_add cF_add 3 none :: wsA) ({ frames := 0, cells := 0, slots := 0, locals := 0 }) (dC, dI) gx_cl [(cI, .int), (cZ, .boolean)] (xw cI cZ o W E) [.ref (o 5), .int v1, .int v2] S post := by
  refine gx_metV (by decide) wsA_good (Nat.le_of_ble_eq_true rfl) ?_
  intro p e s m args below meth c A C hr hlocks
  refine h (vh_F_add o (GV p l e { frames := 0, cells := 0, slots := 0, locals := 0 } s m args below meth c (MQ below (va_Qv post (GB (xw cI cZ o W E) (dC, dI) gx_cl [(cI, .int), (cZ, .boolean)] A) A) args s 0 0 A) 3 (dC, dI) gx_cl A (xw cI cZ o W E))) (fun h S xs hs => ?_)
  unfold sp_F_add at hs
  split at hs
  · exact wk_F_add_0 C hr hlocks _ _ _ hs
  · exact hs.elim
/-- CountedObjects$FreeChunks.clear()V: a step from head to head -/
def sp_F_clear (W E : Nat) (post : GS → Prop) (V : Nat → GS → List Int32 → Prop) (h : Nat) (S : GS) (xs : List Int32) : Prop := match h, xs with
  | 0, [] => (∀ S1 : GS, S1 = gx_set 100 0 0 S → post S1)
  | _, _ => False
def wp_F_clear (W E : Nat) (xs : List Int32) (S : GS) (post : GS → Prop) : Prop := ∀ V : Nat → GS → List Int32 → Prop, (∀ h S xs, sp_F_clear W E post V h S xs → V h S xs) → V 0 S xs
def vh_F_clear (o : Nat → Nat) (G : GS → Nat → List (Nat × Value) → List Value → Prop) (h : Nat) (S : GS) (xs : List Int32) : Prop := match h, xs with
  | 0, [] => G S 0 [(0, .ref (o 5))] []
  | _, _ => True
set_option maxHeartbeats 4000000 in
set_option maxRecDepth 100000 in
theorem wk_F_clear_0 {l : Launch} {dC : Nat → ClassId} {dI : Nat → Nat → Nat} {cI cZ : ClassId} {o : Nat → Nat} {W E : Nat} {p : Program} {e : Env} {s : State} {m : MethodId} {args : Array Value} {below : List Frame} {meth : Method} {c : Code} {A : Nat → Prop} {post : GS → Prop} (C : GC p s m args c cF_clear 1 RF wsA (dC, dI) gx_cl [(cI, .int), (cZ, .boolean)] A) (hr : meth.sig.returnType = none) (hlocks : meth.locks = false) (S : GS) (hs : sp_F_clear W E post (vh_F_clear o (GV p l e { frames := 0, cells := 0, slots := 0, locals := 0 } s m args below meth c (MQ below (va_Qv post (GB (xw cI cZ o W E) (dC, dI) gx_cl [(cI, .int), (cZ, .boolean)] A) A) args s 0 0 A) 1 (dC, dI) gx_cl A (xw cI cZ o W E))) 0 S []) : GV p l e { frames := 0, cells := 0, slots := 0, locals := 0 } s m args below meth c (MQ below (va_Qv post (GB (xw cI cZ o W E) (dC, dI) gx_cl [(cI, .int), (cZ, .boolean)] A) A) args s 0 0 A) 1 (dC, dI) gx_cl A (xw cI cZ o W E) S 0 [(0, .ref (o 5))] [] := by
  refine gx_aload_n C dF_clear_0 0 rfl rfl ?_
  refine gx_iconst (v := 0) C dF_clear_1 (by decide) ?_
  refine gx_put C xo_fc hi_F tyF tyF_ok nmF 2 (by decide) fl_F_18 rfl (by decide +kernel) (Nat.le_of_ble_eq_true rfl) (xp_held _ _) dF_clear_2 (fun S1 eS1 => ?_)
  replace hs := hs S1 eS1
  exact gx_vret C hr hlocks dF_clear_5 hs
set_option maxHeartbeats 4000000 in
set_option maxRecDepth 100000 in
theorem mt_F_clear (l : Launch) (dC : Nat → ClassId) (dI : Nat → Nat → Nat) (cI cZ : ClassId) (o : Nat → Nat) (W E : Nat) (S : GS) (post : GS → Prop) (h : wp_F_clear W E [] S post) : MetV l yF_clear (Cond.code yF_clear cF_clear 1 none :: wsA) ({ frames := 0, cells := 0, slots := 0, locals := 0 }) (dC, dI) gx_cl [(cI, .int), (cZ, .boolean)] (xw cI cZ o W E) [.ref (o 5)] S post := by
  refine gx_metV (by decide) wsA_good (Nat.le_of_ble_eq_true rfl) ?_
  intro p e s m args below meth c A C hr hlocks
  refine h (vh_F_clear o (GV p l e { frames := 0, cells := 0, slots := 0, locals := 0 } s m args below meth c (MQ below (va_Qv post (GB (xw cI cZ o W E) (dC, dI) gx_cl [(cI, .int), (cZ, .boolean)] A) A) args s 0 0 A) 1 (dC, dI) gx_cl A (xw cI cZ o W E))) (fun h S xs hs => ?_)
  unfold sp_F_clear at hs
  split at hs
  · exact wk_F_clear_0 C hr hlocks _ hs
  · exact hs.elim
/-- CountedObjects$FreeChunks.bestFor(I)I: a step from head to head -/
def sp_F_bestFor (W E : Nat) (post : Int32 → GS → Prop) (V : Nat → GS → List Int32 → Prop) (h : Nat) (S : GS) (xs : List Int32) : Prop := match h, xs with
  | 0, [v1] => ∀ y1 : Int32, y1 = (-1) → ∀ y2 : Int32, y2 = (S 100 0) - 1 → V 9 S [v1, y1, y2]
  | 9, [v1, v2, v3] => ((v3 < 0 → post v2 S) ∧ (¬ v3 < 0 → (vp_in v3 W ∧ (((S 7 (v3).toNatClampNeg) < v1 → (∀ y1 : Int32, y1 = v3 + (-1) → V 9 S [v1, v2, y1])) ∧ (¬ (S 7 (v3).toNatClampNeg) < v1 → ((v2 = (-1) → (∀ y2 : Int32, y2 = v3 + (-1) → V 9 S [v1, v3, y2])) ∧ (¬ v2 = (-1) → (vp_in v3 W ∧ (vp_in v2 W ∧ (((S 7 (v2).toNatClampNeg) ≤ (S 7 (v3).toNatClampNeg) → (∀ y3 : Int32, y3 = v3 + (-1) → V 9 S [v1, v2, y3])) ∧ (¬ (S 7 (v2).toNatClampNeg) ≤ (S 7 (v3).toNatClampNeg) → (∀ y4 : Int32, y4 = v3 + (-1) → V 9 S [v1, v3, y4]))))))))))))
  | _, _ => False
def wp_F_bestFor (W E : Nat) (xs : List Int32) (S : GS) (post : Int32 → GS → Prop) : Prop := ∀ V : Nat → GS → List Int32 → Prop, (∀ h S xs, sp_F_bestFor W E post V h S xs → V h S xs) → V 0 S xs
def vh_F_bestFor (o : Nat → Nat) (G : GS → Nat → List (Nat × Value) → List Value → Prop) (h : Nat) (S : GS) (xs : List Int32) : Prop := match h, xs with
  | 0, [v1] => G S 0 [(0, .ref (o 5)), (1, .int v1)] []
  | 9, [v1, v2, v3] => G S 9 [(0, .ref (o 5)), (1, .int v1), (2, .int v2), (3, .int v3)] []
  | _, _ => True
set_option maxHeartbeats 4000000 in
set_option maxRecDepth 100000 in
theorem wk_F_bestFor_0 {l : Launch} {dC : Nat → ClassId} {dI : Nat → Nat → Nat} {cI cZ : ClassId} {o : Nat → Nat} {W E : Nat} {p : Program} {e : Env} {s : State} {m : MethodId} {args : Array Value} {below : List Frame} {meth : Method} {c : Code} {A : Nat → Prop} {post : Int32 → GS → Prop} (C : GC p s m args c cF_bestFor 4 RF wsA (dC, dI) gx_cl [(cI, .int), (cZ, .boolean)] A) (hr : meth.sig.returnType = (some .int)) (hlocks : meth.locks = false) (S : GS) (v1 : Int32) (hs : sp_F_bestFor W E post (vh_F_bestFor o (GV p l e { frames := 0, cells := 0, slots := 0, locals := 0 } s m args below meth c (MQ below (va_Qi post (GB (xw cI cZ o W E) (dC, dI) gx_cl [(cI, .int), (cZ, .boolean)] A) A) args s 0 0 A) 4 (dC, dI) gx_cl A (xw cI cZ o W E))) 0 S [v1]) : GV p l e { frames := 0, cells := 0, slots := 0, locals := 0 } s m args below meth c (MQ below (va_Qi post (GB (xw cI cZ o W E) (dC, dI) gx_cl [(cI, .int), (cZ, .boolean)] A) A) args s 0 0 A) 4 (dC, dI) gx_cl A (xw cI cZ o W E) S 0 [(0, .ref (o 5)), (1, .int v1)] [] := by
  refine gx_iconst (v := (-1)) C dF_bestFor_0 (by decide) ?_
  refine gx_top (fun y1 ey1 => ?_)
  replace hs := hs y1 ey1
  refine gx_istore_n (L' := [(2, .int y1), (0, .ref (o 5)), (1, .int v1)]) C dF_bestFor_1 rfl (by decide) rfl ?_
  refine gx_aload_n C dF_bestFor_2 1 rfl rfl ?_
  refine gx_get C xo_fc hi_F 2 (by decide) fl_F_18 rfl dF_bestFor_3 ?_
  refine gx_iconst (v := 1) C dF_bestFor_6 (by decide) ?_
  refine gx_isub C dF_bestFor_7 ?_
  refine gx_top (fun y2 ey2 => ?_)
  replace hs := hs y2 ey2
  refine gx_istore_n (L' := [(3, .int y2), (2, .int y1), (0, .ref (o 5)), (1, .int v1)]) C dF_bestFor_8 rfl (by decide) rfl ?_
  exact gx_sub [2, 3, 1, 0] rfl hs
set_option maxHeartbeats 4000000 in
set_option maxRecDepth 100000 in
theorem wk_F_bestFor_9 {l : Launch} {dC : Nat → ClassId} {dI : Nat → Nat → Nat} {cI cZ : ClassId} {o : Nat → Nat} {W E : Nat} {p : Program} {e : Env} {s : State} {m : MethodId} {args : Array Value} {below : List Frame} {meth : Method} {c : Code} {A : Nat → Prop} {post : Int32 → GS → Prop} (C : GC p s m args c cF_bestFor 4 RF wsA (dC, dI) gx_cl [(cI, .int), (cZ, .boolean)] A) (hr : meth.sig.returnType = (some .int)) (hlocks : meth.locks = false) (S : GS) (v1 : Int32) (v2 : Int32) (v3 : Int32) (hs : sp_F_bestFor W E post (vh_F_bestFor o (GV p l e { frames := 0, cells := 0, slots := 0, locals := 0 } s m args below meth c (MQ below (va_Qi post (GB (xw cI cZ o W E) (dC, dI) gx_cl [(cI, .int), (cZ, .boolean)] A) A) args s 0 0 A) 4 (dC, dI) gx_cl A (xw cI cZ o W E))) 9 S [v1, v2, v3]) : GV p l e { frames := 0, cells := 0, slots := 0, locals := 0 } s m args below meth c (MQ below (va_Qi post (GB (xw cI cZ o W E) (dC, dI) gx_cl [(cI, .int), (cZ, .boolean)] A) A) args s 0 0 A) 4 (dC, dI) gx_cl A (xw cI cZ o W E) S 9 [(0, .ref (o 5)), (1, .int v1), (2, .int v2), (3, .int v3)] [] := by
  refine gx_iload_n C dF_bestFor_9 3 rfl rfl ?_
  obtain ⟨ht, hf⟩ := hs
  refine gx_if_lt C dF_bestFor_10 51 rfl (fun hc => ?_) (fun hc => ?_)
  · have hs := ht hc
    refine gx_iload_n C dF_bestFor_51 2 rfl rfl ?_
    exact gx_iret C hr hlocks dF_bestFor_52 hs
  · have hs := hf hc
    refine gx_aload_n C dF_bestFor_13 0 rfl rfl ?_
    refine gx_get C xo_fc hi_F 1 (by decide) fl_F_15 rfl dF_bestFor_14 ?_
    refine gx_iload_n C dF_bestFor_17 3 rfl rfl ?_
    obtain ⟨hin, hs⟩ := hs
    refine gx_iald C xa_sizes hin dF_bestFor_18 ?_
    refine gx_iload_n C dF_bestFor_19 1 rfl rfl ?_
    obtain ⟨ht, hf⟩ := hs
    refine gx_icmp_lt C dF_bestFor_20 45 rfl (fun hc => ?_) (fun hc => ?_)
    · have hs := ht hc
      refine gx_iinc (v0 := (-1)) (f := fun v => [(3, .int v), (0, .ref (o 5)), (1, .int v1), (2, .int v2)]) C dF_bestFor_45 3 rfl (by decide) (by decide) (fun _ => rfl) (fun y1 ey1 => ?_)
      replace hs := hs y1 ey1
      refine gx_goto C dF_bestFor_48 9 rfl ?_
      exact gx_sub [1, 2, 3, 0] rfl hs
    · have hs := hf hc
      refine gx_iload_n C dF_bestFor_23 2 rfl rfl ?_
      refine gx_iconst (v := (-1)) C dF_bestFor_24 (by decide) ?_
      obtain ⟨ht, hf⟩ := hs
      refine gx_icmp_eq C dF_bestFor_25 43 rfl (fun hc => ?_) (fun hc => ?_)
      · have hs := ht hc
        refine gx_iload_n C dF_bestFor_43 3 rfl rfl ?_
        refine gx_istore_n (L' := [(2, .int v3), (0, .ref (o 5)), (1, .int v1), (3, .int v3)]) C dF_bestFor_44 rfl (by decide) rfl ?_
        refine gx_iinc (v0 := (-1)) (f := fun v => [(3, .int v), (2, .int v3), (0, .ref (o 5)), (1, .int v1)]) C dF_bestFor_45 3 rfl (by decide) (by decide) (fun _ => rfl) (fun y2 ey2 => ?_)
        replace hs := hs y2 ey2
        refine gx_goto C dF_bestFor_48 9 rfl ?_
        exact gx_sub [2, 3, 1, 0] rfl hs
      · have hs := hf hc
        refine gx_aload_n C dF_bestFor_28 0 rfl rfl ?_
        refine gx_get C xo_fc hi_F 1 (by decide) fl_F_15 rfl dF_bestFor_29 ?_
        refine gx_iload_n C dF_bestFor_32 3 rfl rfl ?_
        obtain ⟨hin, hs⟩ := hs
        refine gx_iald C xa_sizes hin dF_bestFor_33 ?_
        refine gx_aload_n C dF_bestFor_34 0 rfl rfl ?_
        refine gx_get C xo_fc hi_F 1 (by decide) fl_F_15 rfl dF_bestFor_35 ?_
        refine gx_iload_n C dF_bestFor_38 2 rfl rfl ?_
        obtain ⟨hin, hs⟩ := hs
        refine gx_iald C xa_sizes hin dF_bestFor_39 ?_
        obtain ⟨ht, hf⟩ := hs
        refine gx_icmp_ge C dF_bestFor_40 45 rfl (fun hc => ?_) (fun hc => ?_)
        · have hs := ht hc
          refine gx_iinc (v0 := (-1)) (f := fun v => [(3, .int v), (0, .ref (o 5)), (1, .int v1), (2, .int v2)]) C dF_bestFor_45 3 rfl (by decide) (by decide) (fun _ => rfl) (fun y3 ey3 => ?_)
          replace hs := hs y3 ey3
          refine gx_goto C dF_bestFor_48 9 rfl ?_
          exact gx_sub [1, 2, 3, 0] rfl hs
        · have hs := hf hc
          refine gx_iload_n C dF_bestFor_43 3 rfl rfl ?_
          refine gx_istore_n (L' := [(2, .int v3), (0, .ref (o 5)), (1, .int v1), (3, .int v3)]) C dF_bestFor_44 rfl (by decide) rfl ?_
          refine gx_iinc (v0 := (-1)) (f := fun v => [(3, .int v), (2, .int v3), (0, .ref (o 5)), (1, .int v1)]) C dF_bestFor_45 3 rfl (by decide) (by decide) (fun _ => rfl) (fun y4 ey4 => ?_)
          replace hs := hs y4 ey4
          refine gx_goto C dF_bestFor_48 9 rfl ?_
          exact gx_sub [2, 3, 1, 0] rfl hs
set_option maxHeartbeats 4000000 in
set_option maxRecDepth 100000 in
theorem mt_F_bestFor (l : Launch) (dC : Nat → ClassId) (dI : Nat → Nat → Nat) (cI cZ : ClassId) (o : Nat → Nat) (W E : Nat) (v1 : Int32) (S : GS) (post : Int32 → GS → Prop) (h : wp_F_bestFor W E [v1] S post) : MetI l yF_bestFor (Cond.code yF_bestFor cF_bestFor 4 (some .int) :: wsA) ({ frames := 0, cells := 0, slots := 0, locals := 0 }) (dC, dI) gx_cl [(cI, .int), (cZ, .boolean)] (xw cI cZ o W E) [.ref (o 5), .int v1] S post := by
  refine gx_metI (by decide) wsA_good (Nat.le_of_ble_eq_true rfl) ?_
  intro p e s m args below meth c A C hr hlocks
  refine h (vh_F_bestFor o (GV p l e { frames := 0, cells := 0, slots := 0, locals := 0 } s m args below meth c (MQ below (va_Qi post (GB (xw cI cZ o W E) (dC, dI) gx_cl [(cI, .int), (cZ, .boolean)] A) A) args s 0 0 A) 4 (dC, dI) gx_cl A (xw cI cZ o W E))) (fun h S xs hs => ?_)
  unfold sp_F_bestFor at hs
  split at hs
  · exact wk_F_bestFor_0 C hr hlocks _ _ hs
  · exact wk_F_bestFor_9 C hr hlocks _ _ _ _ hs
  · exact hs.elim
/-- CountedObjects$FreeChunks.remove(I)V: a step from head to head -/
def sp_F_remove (W E : Nat) (post : GS → Prop) (V : Nat → GS → List Int32 → Prop) (h : Nat) (S : GS) (xs : List Int32) : Prop := match h, xs with
  | 0, [v1] => (∀ S1 : GS, S1 = gx_set 100 0 ((S 100 0) - 1) S → (¬ (v1 + 1) < 0 ∧ ¬ v1 < 0 ∧ ¬ ((S1 100 0) - v1) < 0 ∧ (v1 + 1).toNatClampNeg + ((S1 100 0) - v1).toNatClampNeg ≤ W ∧ (v1).toNatClampNeg + ((S1 100 0) - v1).toNatClampNeg ≤ W ∧ ∀ S2 : GS, S2 = gx_row 6 (va_cpy (S1 6) (S1 6) (v1 + 1).toNatClampNeg (v1).toNatClampNeg ((S1 100 0) - v1).toNatClampNeg) S1 → (¬ (v1 + 1) < 0 ∧ ¬ v1 < 0 ∧ ¬ ((S2 100 0) - v1) < 0 ∧ (v1 + 1).toNatClampNeg + ((S2 100 0) - v1).toNatClampNeg ≤ W ∧ (v1).toNatClampNeg + ((S2 100 0) - v1).toNatClampNeg ≤ W ∧ ∀ S3 : GS, S3 = gx_row 7 (va_cpy (S2 7) (S2 7) (v1 + 1).toNatClampNeg (v1).toNatClampNeg ((S2 100 0) - v1).toNatClampNeg) S2 → post S3)))
  | _, _ => False
def wp_F_remove (W E : Nat) (xs : List Int32) (S : GS) (post : GS → Prop) : Prop := ∀ V : Nat → GS → List Int32 → Prop, (∀ h S xs, sp_F_remove W E post V h S xs → V h S xs) → V 0 S xs
def vh_F_remove (o : Nat → Nat) (G : GS → Nat → List (Nat × Value) → List Value → Prop) (h : Nat) (S : GS) (xs : List Int32) : Prop := match h, xs with
  | 0, [v1] => G S 0 [(0, .ref (o 5)), (1, .int v1)] []
  | _, _ => True
set_option maxHeartbeats 4000000 in
set_option maxRecDepth 100000 in
theorem wk_F_remove_0 {l : Launch} {dC : Nat → ClassId} {dI : Nat → Nat → Nat} {cI cZ : ClassId} {o : Nat → Nat} {W E : Nat} {p : Program} {e : Env} {s : State} {m : MethodId} {args : Array Value} {below : List Frame} {meth : Method} {c : Code} {A : Nat → Prop} {post : GS → Prop} (C : GC p s m args c cF_remove 2 RF wsA (dC, dI) gx_cl [(cI, .int), (cZ, .boolean)] A) (hr : meth.sig.returnType = none) (hlocks : meth.locks = false) (S : GS) (v1 : Int32) (hs : sp_F_remove W E post (vh_F_remove o (GV p l e { frames := 1, cells := 0, slots := 0, locals := 68 } s m args below meth c (MQ below (va_Qv post (GB (xw cI cZ o W E) (dC, dI) gx_cl [(cI, .int), (cZ, .boolean)] A) A) args s 0 0 A) 2 (dC, dI) gx_cl A (xw cI cZ o W E))) 0 S [v1]) : GV p l e { frames := 1, cells := 0, slots := 0, locals := 68 } s m args below meth c (MQ below (va_Qv post (GB (xw cI cZ o W E) (dC, dI) gx_cl [(cI, .int), (cZ, .boolean)] A) A) args s 0 0 A) 2 (dC, dI) gx_cl A (xw cI cZ o W E) S 0 [(0, .ref (o 5)), (1, .int v1)] [] := by
  refine gx_aload_n C dF_remove_0 0 rfl rfl ?_
  refine gx_dup C dF_remove_1 rfl ?_
  refine gx_get C xo_fc hi_F 2 (by decide) fl_F_18 rfl dF_remove_2 ?_
  refine gx_iconst (v := 1) C dF_remove_5 (by decide) ?_
  refine gx_isub C dF_remove_6 ?_
  refine gx_put C xo_fc hi_F tyF tyF_ok nmF 2 (by decide) fl_F_18 rfl (by decide +kernel) (Nat.le_of_ble_eq_true rfl) (xp_held _ _) dF_remove_7 (fun S1 eS1 => ?_)
  replace hs := hs S1 eS1
  refine gx_aload_n C dF_remove_10 0 rfl rfl ?_
  refine gx_get C xo_fc hi_F 0 (by decide) fl_F_9 rfl dF_remove_11 ?_
  refine gx_iload_n C dF_remove_14 1 rfl rfl ?_
  refine gx_iconst (v := 1) C dF_remove_15 (by decide) ?_
  refine gx_iadd C dF_remove_16 ?_
  refine gx_aload_n C dF_remove_17 0 rfl rfl ?_
  refine gx_get C xo_fc hi_F 0 (by decide) fl_F_9 rfl dF_remove_18 ?_
  refine gx_iload_n C dF_remove_21 1 rfl rfl ?_
  refine gx_aload_n C dF_remove_22 0 rfl rfl ?_
  refine gx_get C xo_fc hi_F 2 (by decide) fl_F_18 rfl dF_remove_23 ?_
  refine gx_iload_n C dF_remove_26 1 rfl rfl ?_
  refine gx_isub C dF_remove_27 ?_
  obtain ⟨h1, h2, h3, h4, h5, hs⟩ := hs
  refine gx_copy C xa_starts ln_F_34 na_copy sm_copy in_java_lang_System h1 h2 h3 h4 h5 (Nat.le_of_ble_eq_true rfl) (Nat.le_of_ble_eq_true rfl) dF_remove_28 (fun S2 eS2 => ?_)
  replace hs := hs S2 eS2
  refine gx_aload_n C dF_remove_31 0 rfl rfl ?_
  refine gx_get C xo_fc hi_F 1 (by decide) fl_F_15 rfl dF_remove_32 ?_
  refine gx_iload_n C dF_remove_35 1 rfl rfl ?_
  refine gx_iconst (v := 1) C dF_remove_36 (by decide) ?_
  refine gx_iadd C dF_remove_37 ?_
  refine gx_aload_n C dF_remove_38 0 rfl rfl ?_
  refine gx_get C xo_fc hi_F 1 (by decide) fl_F_15 rfl dF_remove_39 ?_
  refine gx_iload_n C dF_remove_42 1 rfl rfl ?_
  refine gx_aload_n C dF_remove_43 0 rfl rfl ?_
  refine gx_get C xo_fc hi_F 2 (by decide) fl_F_18 rfl dF_remove_44 ?_
  refine gx_iload_n C dF_remove_47 1 rfl rfl ?_
  refine gx_isub C dF_remove_48 ?_
  obtain ⟨h1, h2, h3, h4, h5, hs⟩ := hs
  refine gx_copy C xa_sizes ln_F_34 na_copy sm_copy in_java_lang_System h1 h2 h3 h4 h5 (Nat.le_of_ble_eq_true rfl) (Nat.le_of_ble_eq_true rfl) dF_remove_49 (fun S3 eS3 => ?_)
  replace hs := hs S3 eS3
  exact gx_vret C hr hlocks dF_remove_52 hs
set_option maxHeartbeats 4000000 in
set_option maxRecDepth 100000 in
theorem mt_F_remove (l : Launch) (dC : Nat → ClassId) (dI : Nat → Nat → Nat) (cI cZ : ClassId) (o : Nat → Nat) (W E : Nat) (v1 : Int32) (S : GS) (post : GS → Prop) (h : wp_F_remove W E [v1] S post) : MetV l yF_remove (Cond.code yF_remove cF_remove 2 none :: wsA) ({ frames := 1, cells := 0, slots := 0, locals := 68 }) (dC, dI) gx_cl [(cI, .int), (cZ, .boolean)] (xw cI cZ o W E) [.ref (o 5), .int v1] S post := by
  refine gx_metV (by decide) wsA_good (Nat.le_of_ble_eq_true rfl) ?_
  intro p e s m args below meth c A C hr hlocks
  refine h (vh_F_remove o (GV p l e { frames := 1, cells := 0, slots := 0, locals := 68 } s m args below meth c (MQ below (va_Qv post (GB (xw cI cZ o W E) (dC, dI) gx_cl [(cI, .int), (cZ, .boolean)] A) A) args s 0 0 A) 2 (dC, dI) gx_cl A (xw cI cZ o W E))) (fun h S xs hs => ?_)
  unfold sp_F_remove at hs
  split at hs
  · exact wk_F_remove_0 C hr hlocks _ _ hs
  · exact hs.elim
/-- CountedObjects$FreeChunks.take(I)I: a step from head to head -/
def sp_F_take (W E : Nat) (post : Int32 → GS → Prop) (V : Nat → GS → List Int32 → Prop) (h : Nat) (S : GS) (xs : List Int32) : Prop := match h, xs with
  | 0, [v1] => wp_F_bestFor W E [v1] S (fun r2 S1 => ((¬ r2 = (-1) → (vp_in r2 W ∧ ∀ y3 : Int32, y3 = S1 6 (r2).toNatClampNeg → (vp_in r2 W ∧ ∀ y4 : Int32, y4 = (S1 7 (r2).toNatClampNeg) - v1 → wp_F_remove W E [r2] S1 (fun S5 => ((y4 ≤ 0 → post y3 S5) ∧ (¬ y4 ≤ 0 → wp_F_add W E [y3 + v1, y4] S5 (fun S7 => post y3 S7))))))) ∧ (r2 = (-1) → post (-1) S1)))
  | _, _ => False
def wp_F_take (W E : Nat) (xs : List Int32) (S : GS) (post : Int32 → GS → Prop) : Prop := ∀ V : Nat → GS → List Int32 → Prop, (∀ h S xs, sp_F_take W E post V h S xs → V h S xs) → V 0 S xs
def vh_F_take (o : Nat → Nat) (G : GS → Nat → List (Nat × Value) → List Value → Prop) (h : Nat) (S : GS) (xs : List Int32) : Prop := match h, xs with
  | 0, [v1] => G S 0 [(0, .ref (o 5)), (1, .int v1)] []
  | _, _ => True
set_option maxHeartbeats 4000000 in
set_option maxRecDepth 100000 in
theorem wk_F_take_0 {l : Launch} {dC : Nat → ClassId} {dI : Nat → Nat → Nat} {cI cZ : ClassId} {o : Nat → Nat} {W E : Nat} {p : Program} {e : Env} {s : State} {m : MethodId} {args : Array Value} {below : List Frame} {meth : Method} {c : Code} {A : Nat → Prop} {post : Int32 → GS → Prop} (C : GC p s m args c cF_take 5 RF wsA (dC, dI) gx_cl [(cI, .int), (cZ, .boolean)] A) (hr : meth.sig.returnType = (some .int)) (hlocks : meth.locks = false) (S : GS) (v1 : Int32) (hs : sp_F_take W E post (vh_F_take o (GV p l e { frames := 2, cells := 0, slots := 0, locals := 89 } s m args below meth c (MQ below (va_Qi post (GB (xw cI cZ o W E) (dC, dI) gx_cl [(cI, .int), (cZ, .boolean)] A) A) args s 0 0 A) 5 (dC, dI) gx_cl A (xw cI cZ o W E))) 0 S [v1]) : GV p l e { frames := 2, cells := 0, slots := 0, locals := 89 } s m args below meth c (MQ below (va_Qi post (GB (xw cI cZ o W E) (dC, dI) gx_cl [(cI, .int), (cZ, .boolean)] A) A) args s 0 0 A) 5 (dC, dI) gx_cl A (xw cI cZ o W E) S 0 [(0, .ref (o 5)), (1, .int v1)] [] := by
  refine gx_aload_n C dF_take_0 0 rfl rfl ?_
  refine gx_iload_n C dF_take_1 1 rfl rfl ?_
  refine gx_calli (As := [.int v1]) (rest := []) C (mt_F_bestFor l dC dI cI cZ o W E _ _ _ hs) (gx_cwV C 1 ln_F_22 im_F_bestFor se_F_bestFor in_CountedObjects_FreeChunks cd_F_bestFor rfl rfl (by decide +kernel) ⟨Nat.le_of_ble_eq_true rfl, Nat.le_of_ble_eq_true rfl⟩) xo_fc rfl (Nat.le_of_ble_eq_true rfl) dF_take_2 (fun S1 => xw_ad _ S1) rfl (fun r2 S1 hs => ?_)
  refine gx_istore_n (L' := [(2, .int r2), (0, .ref (o 5)), (1, .int v1)]) C dF_take_5 rfl (by decide) rfl ?_
  refine gx_iload_n C dF_take_6 0 rfl rfl ?_
  refine gx_iconst (v := (-1)) C dF_take_7 (by decide) ?_
  obtain ⟨ht, hf⟩ := hs
  refine gx_icmp_ne C dF_take_8 13 rfl (fun hc => ?_) (fun hc => ?_)
  · have hs := ht hc
    refine gx_aload_n C dF_take_13 1 rfl rfl ?_
    refine gx_get C xo_fc hi_F 0 (by decide) fl_F_9 rfl dF_take_14 ?_
    refine gx_iload_n C dF_take_17 0 rfl rfl ?_
    obtain ⟨hin, hs⟩ := hs
    refine gx_iald C xa_starts hin dF_take_18 ?_
    refine gx_top (fun y3 ey3 => ?_)
    replace hs := hs y3 ey3
    refine gx_istore_n (L' := [(3, .int y3), (2, .int r2), (0, .ref (o 5)), (1, .int v1)]) C dF_take_19 rfl (by decide) rfl ?_
    refine gx_aload_n C dF_take_20 2 rfl rfl ?_
    refine gx_get C xo_fc hi_F 1 (by decide) fl_F_15 rfl dF_take_21 ?_
    refine gx_iload_n C dF_take_24 1 rfl rfl ?_
    obtain ⟨hin, hs⟩ := hs
    refine gx_iald C xa_sizes hin dF_take_25 ?_
    refine gx_iload_n C dF_take_26 3 rfl rfl ?_
    refine gx_isub C dF_take_27 ?_
    refine gx_top (fun y4 ey4 => ?_)
    replace hs := hs y4 ey4
    refine gx_istore (L' := [(4, .int y4), (3, .int y3), (2, .int r2), (0, .ref (o 5)), (1, .int v1)]) C dF_take_28 (by decide) rfl ?_
    refine gx_aload_n C dF_take_30 3 rfl rfl ?_
    refine gx_iload_n C dF_take_31 2 rfl rfl ?_
    refine gx_callv (As := [.int r2]) (rest := []) C (mt_F_remove l dC dI cI cZ o W E _ _ _ hs) (gx_cwV C 1 ln_F_26 im_F_remove se_F_remove in_CountedObjects_FreeChunks cd_F_remove rfl rfl (by decide +kernel) ⟨Nat.le_of_ble_eq_true rfl, Nat.le_of_ble_eq_true rfl⟩) xo_fc rfl (Nat.le_of_ble_eq_true rfl) dF_take_32 (fun S1 => xw_ad _ S1) rfl (fun S5 hs => ?_)
    refine gx_iload C dF_take_35 0 rfl ?_
    obtain ⟨ht, hf⟩ := hs
    refine gx_if_le C dF_take_37 49 rfl (fun hc => ?_) (fun hc => ?_)
    · have hs := ht hc
      refine gx_iload_n C dF_take_49 1 rfl rfl ?_
      exact gx_iret C hr hlocks dF_take_50 hs
    · have hs := hf hc
      refine gx_aload_n C dF_take_40 3 rfl rfl ?_
      refine gx_iload_n C dF_take_41 1 rfl rfl ?_
      refine gx_iload_n C dF_take_42 4 rfl rfl ?_
      refine gx_iadd C dF_take_43 ?_
      refine gx_iload C dF_take_44 0 rfl ?_
      refine gx_callv (As := [.int (y3 + v1), .int y4]) (rest := []) C (mt_F_add l dC dI cI cZ o W E _ _ _ _ hs) (gx_cwV C 2 ln_F_30 im_F_add se_F_add in_CountedObjects_FreeChunks cd_F_add rfl rfl (by decide +kernel) ⟨Nat.le_of_ble_eq_true rfl, Nat.le_of_ble_eq_true rfl⟩) xo_fc rfl (Nat.le_of_ble_eq_true rfl) dF_take_46 (fun S1 => xw_ad _ S1) rfl (fun S7 hs => ?_)
      refine gx_iload_n C dF_take_49 1 rfl rfl ?_
      exact gx_iret C hr hlocks dF_take_50 hs
  · have hs := hf hc
    refine gx_iconst (v := (-1)) C dF_take_11 (by decide) ?_
    exact gx_iret C hr hlocks dF_take_12 hs
set_option maxHeartbeats 4000000 in
set_option maxRecDepth 100000 in
theorem mt_F_take (l : Launch) (dC : Nat → ClassId) (dI : Nat → Nat → Nat) (cI cZ : ClassId) (o : Nat → Nat) (W E : Nat) (v1 : Int32) (S : GS) (post : Int32 → GS → Prop) (h : wp_F_take W E [v1] S post) : MetI l yF_take (Cond.code yF_take cF_take 5 (some .int) :: wsA) ({ frames := 2, cells := 0, slots := 0, locals := 89 }) (dC, dI) gx_cl [(cI, .int), (cZ, .boolean)] (xw cI cZ o W E) [.ref (o 5), .int v1] S post := by
  refine gx_metI (by decide) wsA_good (Nat.le_of_ble_eq_true rfl) ?_
  intro p e s m args below meth c A C hr hlocks
  refine h (vh_F_take o (GV p l e { frames := 2, cells := 0, slots := 0, locals := 89 } s m args below meth c (MQ below (va_Qi post (GB (xw cI cZ o W E) (dC, dI) gx_cl [(cI, .int), (cZ, .boolean)] A) A) args s 0 0 A) 5 (dC, dI) gx_cl A (xw cI cZ o W E))) (fun h S xs hs => ?_)
  unfold sp_F_take at hs
  split at hs
  · exact wk_F_take_0 C hr hlocks _ _ hs
  · exact hs.elim
/-- CountedObjects$FreeChunks.ofSize(I)I: a step from head to head -/
def sp_F_ofSize (W E : Nat) (post : Int32 → GS → Prop) (V : Nat → GS → List Int32 → Prop) (h : Nat) (S : GS) (xs : List Int32) : Prop := match h, xs with
  | 0, [v1] => ∀ y1 : Int32, y1 = 0 → ∀ y2 : Int32, y2 = 0 → V 4 S [v1, y1, y2]
  | 4, [v1, v2, v3] => (((S 100 0) ≤ v3 → post v2 S) ∧ (¬ (S 100 0) ≤ v3 → (vp_in v3 W ∧ ((¬ (S 7 (v3).toNatClampNeg) = v1 → (∀ y1 : Int32, y1 = v3 + 1 → V 4 S [v1, v2, y1])) ∧ ((S 7 (v3).toNatClampNeg) = v1 → (∀ y2 : Int32, y2 = v2 + 1 → (∀ y3 : Int32, y3 = v3 + 1 → V 4 S [v1, y2, y3])))))))
  | _, _ => False
def wp_F_ofSize (W E : Nat) (xs : List Int32) (S : GS) (post : Int32 → GS → Prop) : Prop := ∀ V : Nat → GS → List Int32 → Prop, (∀ h S xs, sp_F_ofSize W E post V h S xs → V h S xs) → V 0 S xs
def vh_F_ofSize (o : Nat → Nat) (G : GS → Nat → List (Nat × Value) → List Value → Prop) (h : Nat) (S : GS) (xs : List Int32) : Prop := match h, xs with
  | 0, [v1] => G S 0 [(0, .ref (o 5)), (1, .int v1)] []
  | 4, [v1, v2, v3] => G S 4 [(0, .ref (o 5)), (1, .int v1), (2, .int v2), (3, .int v3)] []
  | _, _ => True
set_option maxHeartbeats 4000000 in
set_option maxRecDepth 100000 in
theorem wk_F_ofSize_0 {l : Launch} {dC : Nat → ClassId} {dI : Nat → Nat → Nat} {cI cZ : ClassId} {o : Nat → Nat} {W E : Nat} {p : Program} {e : Env} {s : State} {m : MethodId} {args : Array Value} {below : List Frame} {meth : Method} {c : Code} {A : Nat → Prop} {post : Int32 → GS → Prop} (C : GC p s m args c cF_ofSize 4 RF wsA (dC, dI) gx_cl [(cI, .int), (cZ, .boolean)] A) (hr : meth.sig.returnType = (some .int)) (hlocks : meth.locks = false) (S : GS) (v1 : Int32) (hs : sp_F_ofSize W E post (vh_F_ofSize o (GV p l e { frames := 0, cells := 0, slots := 0, locals := 0 } s m args below meth c (MQ below (va_Qi post (GB (xw cI cZ o W E) (dC, dI) gx_cl [(cI, .int), (cZ, .boolean)] A) A) args s 0 0 A) 4 (dC, dI) gx_cl A (xw cI cZ o W E))) 0 S [v1]) : GV p l e { frames := 0, cells := 0, slots := 0, locals := 0 } s m args below meth c (MQ below (va_Qi post (GB (xw cI cZ o W E) (dC, dI) gx_cl [(cI, .int), (cZ, .boolean)] A) A) args s 0 0 A) 4 (dC, dI) gx_cl A (xw cI cZ o W E) S 0 [(0, .ref (o 5)), (1, .int v1)] [] := by
  refine gx_iconst (v := 0) C dF_ofSize_0 (by decide) ?_
  refine gx_top (fun y1 ey1 => ?_)
  replace hs := hs y1 ey1
  refine gx_istore_n (L' := [(2, .int y1), (0, .ref (o 5)), (1, .int v1)]) C dF_ofSize_1 rfl (by decide) rfl ?_
  refine gx_iconst (v := 0) C dF_ofSize_2 (by decide) ?_
  refine gx_top (fun y2 ey2 => ?_)
  replace hs := hs y2 ey2
  refine gx_istore_n (L' := [(3, .int y2), (2, .int y1), (0, .ref (o 5)), (1, .int v1)]) C dF_ofSize_3 rfl (by decide) rfl ?_
  exact gx_sub [2, 3, 1, 0] rfl hs
set_option maxHeartbeats 4000000 in
set_option maxRecDepth 100000 in
theorem wk_F_ofSize_4 {l : Launch} {dC : Nat → ClassId} {dI : Nat → Nat → Nat} {cI cZ : ClassId} {o : Nat → Nat} {W E : Nat} {p : Program} {e : Env} {s : State} {m : MethodId} {args : Array Value} {below : List Frame} {meth : Method} {c : Code} {A : Nat → Prop} {post : Int32 → GS → Prop} (C : GC p s m args c cF_ofSize 4 RF wsA (dC, dI) gx_cl [(cI, .int), (cZ, .boolean)] A) (hr : meth.sig.returnType = (some .int)) (hlocks : meth.locks = false) (S : GS) (v1 : Int32) (v2 : Int32) (v3 : Int32) (hs : sp_F_ofSize W E post (vh_F_ofSize o (GV p l e { frames := 0, cells := 0, slots := 0, locals := 0 } s m args below meth c (MQ below (va_Qi post (GB (xw cI cZ o W E) (dC, dI) gx_cl [(cI, .int), (cZ, .boolean)] A) A) args s 0 0 A) 4 (dC, dI) gx_cl A (xw cI cZ o W E))) 4 S [v1, v2, v3]) : GV p l e { frames := 0, cells := 0, slots := 0, locals := 0 } s m args below meth c (MQ below (va_Qi post (GB (xw cI cZ o W E) (dC, dI) gx_cl [(cI, .int), (cZ, .boolean)] A) A) args s 0 0 A) 4 (dC, dI) gx_cl A (xw cI cZ o W E) S 4 [(0, .ref (o 5)), (1, .int v1), (2, .int v2), (3, .int v3)] [] := by
  refine gx_iload_n C dF_ofSize_4 3 rfl rfl ?_
  refine gx_aload_n C dF_ofSize_5 0 rfl rfl ?_
  refine gx_get C xo_fc hi_F 2 (by decide) fl_F_18 rfl dF_ofSize_6 ?_
  obtain ⟨ht, hf⟩ := hs
  refine gx_icmp_ge C dF_ofSize_9 31 rfl (fun hc => ?_) (fun hc => ?_)
  · have hs := ht hc
    refine gx_iload_n C dF_ofSize_31 2 rfl rfl ?_
    exact gx_iret C hr hlocks dF_ofSize_32 hs
  · have hs := hf hc
    refine gx_aload_n C dF_ofSize_12 0 rfl rfl ?_
    refine gx_get C xo_fc hi_F 1 (by decide) fl_F_15 rfl dF_ofSize_13 ?_
    refine gx_iload_n C dF_ofSize_16 3 rfl rfl ?_
    obtain ⟨hin, hs⟩ := hs
    refine gx_iald C xa_sizes hin dF_ofSize_17 ?_
    refine gx_iload_n C dF_ofSize_18 1 rfl rfl ?_
    obtain ⟨ht, hf⟩ := hs
    refine gx_icmp_ne C dF_ofSize_19 25 rfl (fun hc => ?_) (fun hc => ?_)
    · have hs := ht hc
      refine gx_iinc (v0 := 1) (f := fun v => [(3, .int v), (0, .ref (o 5)), (1, .int v1), (2, .int v2)]) C dF_ofSize_25 3 rfl (by decide) (by decide) (fun _ => rfl) (fun y1 ey1 => ?_)
      replace hs := hs y1 ey1
      refine gx_goto C dF_ofSize_28 4 rfl ?_
      exact gx_sub [1, 2, 3, 0] rfl hs
    · have hs := hf hc
      refine gx_iinc (v0 := 1) (f := fun v => [(2, .int v), (0, .ref (o 5)), (1, .int v1), (3, .int v3)]) C dF_ofSize_22 2 rfl (by decide) (by decide) (fun _ => rfl) (fun y2 ey2 => ?_)
      replace hs := hs y2 ey2
      refine gx_iinc (v0 := 1) (f := fun v => [(3, .int v), (2, .int y2), (0, .ref (o 5)), (1, .int v1)]) C dF_ofSize_25 3 rfl (by decide) (by decide) (fun _ => rfl) (fun y3 ey3 => ?_)
      replace hs := hs y3 ey3
      refine gx_goto C dF_ofSize_28 4 rfl ?_
      exact gx_sub [2, 3, 1, 0] rfl hs
set_option maxHeartbeats 4000000 in
set_option maxRecDepth 100000 in
theorem mt_F_ofSize (l : Launch) (dC : Nat → ClassId) (dI : Nat → Nat → Nat) (cI cZ : ClassId) (o : Nat → Nat) (W E : Nat) (v1 : Int32) (S : GS) (post : Int32 → GS → Prop) (h : wp_F_ofSize W E [v1] S post) : MetI l yF_ofSize (Cond.code yF_ofSize cF_ofSize 4 (some .int) :: wsA) ({ frames := 0, cells := 0, slots := 0, locals := 0 }) (dC, dI) gx_cl [(cI, .int), (cZ, .boolean)] (xw cI cZ o W E) [.ref (o 5), .int v1] S post := by
  refine gx_metI (by decide) wsA_good (Nat.le_of_ble_eq_true rfl) ?_
  intro p e s m args below meth c A C hr hlocks
  refine h (vh_F_ofSize o (GV p l e { frames := 0, cells := 0, slots := 0, locals := 0 } s m args below meth c (MQ below (va_Qi post (GB (xw cI cZ o W E) (dC, dI) gx_cl [(cI, .int), (cZ, .boolean)] A) A) args s 0 0 A) 4 (dC, dI) gx_cl A (xw cI cZ o W E))) (fun h S xs hs => ?_)
  unfold sp_F_ofSize at hs
  split at hs
  · exact wk_F_ofSize_0 C hr hlocks _ _ hs
  · exact wk_F_ofSize_4 C hr hlocks _ _ _ _ hs
  · exact hs.elim
/-- CountedObjects$FreeChunks.allWords()I: a step from head to head -/
def sp_F_allWords (W E : Nat) (post : Int32 → GS → Prop) (V : Nat → GS → List Int32 → Prop) (h : Nat) (S : GS) (xs : List Int32) : Prop := match h, xs with
  | 0, [] => ∀ y1 : Int32, y1 = 0 → ∀ y2 : Int32, y2 = 0 → V 4 S [y1, y2]
  | 4, [v1, v2] => (((S 100 0) ≤ v2 → post v1 S) ∧ (¬ (S 100 0) ≤ v2 → (vp_in v2 W ∧ ∀ y1 : Int32, y1 = v1 + (S 7 (v2).toNatClampNeg) → (∀ y2 : Int32, y2 = v2 + 1 → V 4 S [y1, y2]))))
  | _, _ => False
def wp_F_allWords (W E : Nat) (xs : List Int32) (S : GS) (post : Int32 → GS → Prop) : Prop := ∀ V : Nat → GS → List Int32 → Prop, (∀ h S xs, sp_F_allWords W E post V h S xs → V h S xs) → V 0 S xs
def vh_F_allWords (o : Nat → Nat) (G : GS → Nat → List (Nat × Value) → List Value → Prop) (h : Nat) (S : GS) (xs : List Int32) : Prop := match h, xs with
  | 0, [] => G S 0 [(0, .ref (o 5))] []
  | 4, [v1, v2] => G S 4 [(0, .ref (o 5)), (1, .int v1), (2, .int v2)] []
  | _, _ => True
set_option maxHeartbeats 4000000 in
set_option maxRecDepth 100000 in
theorem wk_F_allWords_0 {l : Launch} {dC : Nat → ClassId} {dI : Nat → Nat → Nat} {cI cZ : ClassId} {o : Nat → Nat} {W E : Nat} {p : Program} {e : Env} {s : State} {m : MethodId} {args : Array Value} {below : List Frame} {meth : Method} {c : Code} {A : Nat → Prop} {post : Int32 → GS → Prop} (C : GC p s m args c cF_allWords 3 RF wsA (dC, dI) gx_cl [(cI, .int), (cZ, .boolean)] A) (hr : meth.sig.returnType = (some .int)) (hlocks : meth.locks = false) (S : GS) (hs : sp_F_allWords W E post (vh_F_allWords o (GV p l e { frames := 0, cells := 0, slots := 0, locals := 0 } s m args below meth c (MQ below (va_Qi post (GB (xw cI cZ o W E) (dC, dI) gx_cl [(cI, .int), (cZ, .boolean)] A) A) args s 0 0 A) 3 (dC, dI) gx_cl A (xw cI cZ o W E))) 0 S []) : GV p l e { frames := 0, cells := 0, slots := 0, locals := 0 } s m args below meth c (MQ below (va_Qi post (GB (xw cI cZ o W E) (dC, dI) gx_cl [(cI, .int), (cZ, .boolean)] A) A) args s 0 0 A) 3 (dC, dI) gx_cl A (xw cI cZ o W E) S 0 [(0, .ref (o 5))] [] := by
  refine gx_iconst (v := 0) C dF_allWords_0 (by decide) ?_
  refine gx_top (fun y1 ey1 => ?_)
  replace hs := hs y1 ey1
  refine gx_istore_n (L' := [(1, .int y1), (0, .ref (o 5))]) C dF_allWords_1 rfl (by decide) rfl ?_
  refine gx_iconst (v := 0) C dF_allWords_2 (by decide) ?_
  refine gx_top (fun y2 ey2 => ?_)
  replace hs := hs y2 ey2
  refine gx_istore_n (L' := [(2, .int y2), (1, .int y1), (0, .ref (o 5))]) C dF_allWords_3 rfl (by decide) rfl ?_
  exact gx_sub [2, 1, 0] rfl hs
set_option maxHeartbeats 4000000 in
set_option maxRecDepth 100000 in
theorem wk_F_allWords_4 {l : Launch} {dC : Nat → ClassId} {dI : Nat → Nat → Nat} {cI cZ : ClassId} {o : Nat → Nat} {W E : Nat} {p : Program} {e : Env} {s : State} {m : MethodId} {args : Array Value} {below : List Frame} {meth : Method} {c : Code} {A : Nat → Prop} {post : Int32 → GS → Prop} (C : GC p s m args c cF_allWords 3 RF wsA (dC, dI) gx_cl [(cI, .int), (cZ, .boolean)] A) (hr : meth.sig.returnType = (some .int)) (hlocks : meth.locks = false) (S : GS) (v1 : Int32) (v2 : Int32) (hs : sp_F_allWords W E post (vh_F_allWords o (GV p l e { frames := 0, cells := 0, slots := 0, locals := 0 } s m args below meth c (MQ below (va_Qi post (GB (xw cI cZ o W E) (dC, dI) gx_cl [(cI, .int), (cZ, .boolean)] A) A) args s 0 0 A) 3 (dC, dI) gx_cl A (xw cI cZ o W E))) 4 S [v1, v2]) : GV p l e { frames := 0, cells := 0, slots := 0, locals := 0 } s m args below meth c (MQ below (va_Qi post (GB (xw cI cZ o W E) (dC, dI) gx_cl [(cI, .int), (cZ, .boolean)] A) A) args s 0 0 A) 3 (dC, dI) gx_cl A (xw cI cZ o W E) S 4 [(0, .ref (o 5)), (1, .int v1), (2, .int v2)] [] := by
  refine gx_iload_n C dF_allWords_4 2 rfl rfl ?_
  refine gx_aload_n C dF_allWords_5 0 rfl rfl ?_
  refine gx_get C xo_fc hi_F 2 (by decide) fl_F_18 rfl dF_allWords_6 ?_
  obtain ⟨ht, hf⟩ := hs
  refine gx_icmp_ge C dF_allWords_9 27 rfl (fun hc => ?_) (fun hc => ?_)
  · have hs := ht hc
    refine gx_iload_n C dF_allWords_27 1 rfl rfl ?_
    exact gx_iret C hr hlocks dF_allWords_28 hs
  · have hs := hf hc
    refine gx_iload_n C dF_allWords_12 1 rfl rfl ?_
    refine gx_aload_n C dF_allWords_13 0 rfl rfl ?_
    refine gx_get C xo_fc hi_F 1 (by decide) fl_F_15 rfl dF_allWords_14 ?_
    refine gx_iload_n C dF_allWords_17 2 rfl rfl ?_
    obtain ⟨hin, hs⟩ := hs
    refine gx_iald C xa_sizes hin dF_allWords_18 ?_
    refine gx_iadd C dF_allWords_19 ?_
    refine gx_top (fun y1 ey1 => ?_)
    replace hs := hs y1 ey1
    refine gx_istore_n (L' := [(1, .int y1), (0, .ref (o 5)), (2, .int v2)]) C dF_allWords_20 rfl (by decide) rfl ?_
    refine gx_iinc (v0 := 1) (f := fun v => [(2, .int v), (1, .int y1), (0, .ref (o 5))]) C dF_allWords_21 2 rfl (by decide) (by decide) (fun _ => rfl) (fun y2 ey2 => ?_)
    replace hs := hs y2 ey2
    refine gx_goto C dF_allWords_24 4 rfl ?_
    exact gx_sub [2, 1, 0] rfl hs
set_option maxHeartbeats 4000000 in
set_option maxRecDepth 100000 in
theorem mt_F_allWords (l : Launch) (dC : Nat → ClassId) (dI : Nat → Nat → Nat) (cI cZ : ClassId) (o : Nat → Nat) (W E : Nat) (S : GS) (post : Int32 → GS → Prop) (h : wp_F_allWords W E [] S post) : MetI l yF_allWords (Cond.code yF_allWords cF_allWords 3 (some .int) :: wsA) ({ frames := 0, cells := 0, slots := 0, locals := 0 }) (dC, dI) gx_cl [(cI, .int), (cZ, .boolean)] (xw cI cZ o W E) [.ref (o 5)] S post := by
  refine gx_metI (by decide) wsA_good (Nat.le_of_ble_eq_true rfl) ?_
  intro p e s m args below meth c A C hr hlocks
  refine h (vh_F_allWords o (GV p l e { frames := 0, cells := 0, slots := 0, locals := 0 } s m args below meth c (MQ below (va_Qi post (GB (xw cI cZ o W E) (dC, dI) gx_cl [(cI, .int), (cZ, .boolean)] A) A) args s 0 0 A) 3 (dC, dI) gx_cl A (xw cI cZ o W E))) (fun h S xs hs => ?_)
  unfold sp_F_allWords at hs
  split at hs
  · exact wk_F_allWords_0 C hr hlocks _ hs
  · exact wk_F_allWords_4 C hr hlocks _ _ _ hs
  · exact hs.elim
end
section
theorem dX_init_0 : decode cX_init 0 = .ok (.aload_n 0, 1) := by decide +kernel
theorem dX_init_1 : decode cX_init 1 = .ok (.invokespecial 1, 3) := by decide +kernel
theorem dX_init_4 : decode cX_init 4 = .ok (.bipush 16, 2) := by decide +kernel
theorem dX_init_6 : decode cX_init 6 = .ok (.sipush 400, 3) := by decide +kernel
theorem dX_init_9 : decode cX_init 9 = .ok (.iload_n 1, 1) := by decide +kernel
theorem dX_init_10 : decode cX_init 10 = .ok (.invokestatic 9, 3) := by decide +kernel
theorem dX_init_13 : decode cX_init 13 = .ok (.invokestatic 15, 3) := by decide +kernel
theorem dX_init_16 : decode cX_init 16 = .ok (.istore_n 3, 1) := by decide +kernel
theorem dX_init_17 : decode cX_init 17 = .ok (.iconst 2, 1) := by decide +kernel
theorem dX_init_18 : decode cX_init 18 = .ok (.bipush 40, 2) := by decide +kernel
theorem dX_init_20 : decode cX_init 20 = .ok (.iload_n 2, 1) := by decide +kernel
theorem dX_init_21 : decode cX_init 21 = .ok (.invokestatic 9, 3) := by decide +kernel
theorem dX_init_24 : decode cX_init 24 = .ok (.invokestatic 15, 3) := by decide +kernel
theorem dX_init_27 : decode cX_init 27 = .ok (.istore 4, 2) := by decide +kernel
theorem dX_init_29 : decode cX_init 29 = .ok (.aload_n 0, 1) := by decide +kernel
theorem dX_init_30 : decode cX_init 30 = .ok (.iload_n 3, 1) := by decide +kernel
theorem dX_init_31 : decode cX_init 31 = .ok (.newarray .int, 2) := by decide +kernel
theorem dX_init_33 : decode cX_init 33 = .ok (.putfield 18, 3) := by decide +kernel
theorem dX_init_36 : decode cX_init 36 = .ok (.aload_n 0, 1) := by decide +kernel
theorem dX_init_37 : decode cX_init 37 = .ok (.iload 4, 2) := by decide +kernel
theorem dX_init_39 : decode cX_init 39 = .ok (.iconst 1, 1) := by decide +kernel
theorem dX_init_40 : decode cX_init 40 = .ok (.iadd, 1) := by decide +kernel
theorem dX_init_41 : decode cX_init 41 = .ok (.newarray .int, 2) := by decide +kernel
theorem dX_init_43 : decode cX_init 43 = .ok (.putfield 22, 3) := by decide +kernel
theorem dX_init_46 : decode cX_init 46 = .ok (.aload_n 0, 1) := by decide +kernel
theorem dX_init_47 : decode cX_init 47 = .ok (.iload 4, 2) := by decide +kernel
theorem dX_init_49 : decode cX_init 49 = .ok (.iconst 1, 1) := by decide +kernel
theorem dX_init_50 : decode cX_init 50 = .ok (.iadd, 1) := by decide +kernel
theorem dX_init_51 : decode cX_init 51 = .ok (.newarray .int, 2) := by decide +kernel
theorem dX_init_53 : decode cX_init 53 = .ok (.putfield 25, 3) := by decide +kernel
theorem dX_init_56 : decode cX_init 56 = .ok (.aload_n 0, 1) := by decide +kernel
theorem dX_init_57 : decode cX_init 57 = .ok (.bipush 8, 2) := by decide +kernel
theorem dX_init_59 : decode cX_init 59 = .ok (.newarray .int, 2) := by decide +kernel
theorem dX_init_61 : decode cX_init 61 = .ok (.putfield 28, 3) := by decide +kernel
theorem dX_init_64 : decode cX_init 64 = .ok (.aload_n 0, 1) := by decide +kernel
theorem dX_init_65 : decode cX_init 65 = .ok (.new 31, 3) := by decide +kernel
theorem dX_init_68 : decode cX_init 68 = .ok (.dup, 1) := by decide +kernel
theorem dX_init_69 : decode cX_init 69 = .ok (.iload_n 3, 1) := by decide +kernel
theorem dX_init_70 : decode cX_init 70 = .ok (.invokespecial 33, 3) := by decide +kernel
theorem dX_init_73 : decode cX_init 73 = .ok (.putfield 36, 3) := by decide +kernel
theorem dX_init_76 : decode cX_init 76 = .ok (.aload_n 0, 1) := by decide +kernel
theorem dX_init_77 : decode cX_init 77 = .ok (.iload 4, 2) := by decide +kernel
theorem dX_init_79 : decode cX_init 79 = .ok (.iconst 1, 1) := by decide +kernel
theorem dX_init_80 : decode cX_init 80 = .ok (.iadd, 1) := by decide +kernel
theorem dX_init_81 : decode cX_init 81 = .ok (.newarray .boolean, 2) := by decide +kernel
theorem dX_init_83 : decode cX_init 83 = .ok (.putfield 40, 3) := by decide +kernel
theorem dX_init_86 : decode cX_init 86 = .ok (.aload_n 0, 1) := by decide +kernel
theorem dX_init_87 : decode cX_init 87 = .ok (.iload 4, 2) := by decide +kernel
theorem dX_init_89 : decode cX_init 89 = .ok (.newarray .int, 2) := by decide +kernel
theorem dX_init_91 : decode cX_init 91 = .ok (.putfield 44, 3) := by decide +kernel
theorem dX_init_94 : decode cX_init 94 = .ok (.aload_n 0, 1) := by decide +kernel
theorem dX_init_95 : decode cX_init 95 = .ok (.iconst 0, 1) := by decide +kernel
theorem dX_init_96 : decode cX_init 96 = .ok (.putfield 47, 3) := by decide +kernel
theorem dX_init_99 : decode cX_init 99 = .ok (.aload_n 0, 1) := by decide +kernel
theorem dX_init_100 : decode cX_init 100 = .ok (.getfield 22, 3) := by decide +kernel
theorem dX_init_103 : decode cX_init 103 = .ok (.iconst (-1), 1) := by decide +kernel
theorem dX_init_104 : decode cX_init 104 = .ok (.invokestatic 51, 3) := by decide +kernel
theorem dX_init_107 : decode cX_init 107 = .ok (.return_, 1) := by decide +kernel
theorem dX_instantiate_0 : decode cX_instantiate 0 = .ok (.iload_n 1, 1) := by decide +kernel
theorem dX_instantiate_1 : decode cX_instantiate 1 = .ok (.invokestatic 57, 3) := by decide +kernel
theorem dX_instantiate_4 : decode cX_instantiate 4 = .ok (.ifCond .ne 11, 3) := by decide +kernel
theorem dX_instantiate_7 : decode cX_instantiate 7 = .ok (.new 61, 3) := by decide +kernel
theorem dX_instantiate_10 : decode cX_instantiate 10 = .ok (.dup, 1) := by decide +kernel
theorem dX_instantiate_11 : decode cX_instantiate 11 = .ok (.invokespecial 63, 3) := by decide +kernel
theorem dX_instantiate_14 : decode cX_instantiate 14 = .ok (.athrow, 1) := by decide +kernel
theorem dX_instantiate_15 : decode cX_instantiate 15 = .ok (.aload_n 0, 1) := by decide +kernel
theorem dX_instantiate_16 : decode cX_instantiate 16 = .ok (.iload_n 2, 1) := by decide +kernel
theorem dX_instantiate_17 : decode cX_instantiate 17 = .ok (.invokevirtual 64, 3) := by decide +kernel
theorem dX_instantiate_20 : decode cX_instantiate 20 = .ok (.ifCond .eq 13, 3) := by decide +kernel
theorem dX_instantiate_23 : decode cX_instantiate 23 = .ok (.iload_n 3, 1) := by decide +kernel
theorem dX_instantiate_24 : decode cX_instantiate 24 = .ok (.ifCond .lt 9, 3) := by decide +kernel
theorem dX_instantiate_27 : decode cX_instantiate 27 = .ok (.iload_n 3, 1) := by decide +kernel
theorem dX_instantiate_28 : decode cX_instantiate 28 = .ok (.bipush 20, 2) := by decide +kernel
theorem dX_instantiate_30 : decode cX_instantiate 30 = .ok (.if_icmp .le 11, 3) := by decide +kernel
theorem dX_instantiate_33 : decode cX_instantiate 33 = .ok (.new 67, 3) := by decide +kernel
theorem dX_instantiate_36 : decode cX_instantiate 36 = .ok (.dup, 1) := by decide +kernel
theorem dX_instantiate_37 : decode cX_instantiate 37 = .ok (.invokespecial 69, 3) := by decide +kernel
theorem dX_instantiate_40 : decode cX_instantiate 40 = .ok (.athrow, 1) := by decide +kernel
theorem dX_instantiate_41 : decode cX_instantiate 41 = .ok (.aload_n 0, 1) := by decide +kernel
theorem dX_instantiate_42 : decode cX_instantiate 42 = .ok (.iload_n 3, 1) := by decide +kernel
theorem dX_instantiate_43 : decode cX_instantiate 43 = .ok (.iconst 2, 1) := by decide +kernel
theorem dX_instantiate_44 : decode cX_instantiate 44 = .ok (.iadd, 1) := by decide +kernel
theorem dX_instantiate_45 : decode cX_instantiate 45 = .ok (.iload_n 2, 1) := by decide +kernel
theorem dX_instantiate_46 : decode cX_instantiate 46 = .ok (.invokevirtual 70, 3) := by decide +kernel
theorem dX_instantiate_49 : decode cX_instantiate 49 = .ok (.istore 4, 2) := by decide +kernel
theorem dX_instantiate_51 : decode cX_instantiate 51 = .ok (.aload_n 0, 1) := by decide +kernel
theorem dX_instantiate_52 : decode cX_instantiate 52 = .ok (.invokevirtual 73, 3) := by decide +kernel
theorem dX_instantiate_55 : decode cX_instantiate 55 = .ok (.istore 5, 2) := by decide +kernel
theorem dX_instantiate_57 : decode cX_instantiate 57 = .ok (.iload 4, 2) := by decide +kernel
theorem dX_instantiate_59 : decode cX_instantiate 59 = .ok (.iconst (-1), 1) := by decide +kernel
theorem dX_instantiate_60 : decode cX_instantiate 60 = .ok (.if_icmp .eq 8, 3) := by decide +kernel
theorem dX_instantiate_63 : decode cX_instantiate 63 = .ok (.iload 5, 2) := by decide +kernel
theorem dX_instantiate_65 : decode cX_instantiate 65 = .ok (.ifCond .ne 11, 3) := by decide +kernel
theorem dX_instantiate_68 : decode cX_instantiate 68 = .ok (.new 77, 3) := by decide +kernel
theorem dX_instantiate_71 : decode cX_instantiate 71 = .ok (.dup, 1) := by decide +kernel
theorem dX_instantiate_72 : decode cX_instantiate 72 = .ok (.invokespecial 79, 3) := by decide +kernel
theorem dX_instantiate_75 : decode cX_instantiate 75 = .ok (.athrow, 1) := by decide +kernel
theorem dX_instantiate_76 : decode cX_instantiate 76 = .ok (.aload_n 0, 1) := by decide +kernel
theorem dX_instantiate_77 : decode cX_instantiate 77 = .ok (.iload 5, 2) := by decide +kernel
theorem dX_instantiate_79 : decode cX_instantiate 79 = .ok (.iload 4, 2) := by decide +kernel
theorem dX_instantiate_81 : decode cX_instantiate 81 = .ok (.iload_n 2, 1) := by decide +kernel
theorem dX_instantiate_82 : decode cX_instantiate 82 = .ok (.iload_n 3, 1) := by decide +kernel
theorem dX_instantiate_83 : decode cX_instantiate 83 = .ok (.invokevirtual 80, 3) := by decide +kernel
theorem dX_instantiate_86 : decode cX_instantiate 86 = .ok (.aload_n 0, 1) := by decide +kernel
theorem dX_instantiate_87 : decode cX_instantiate 87 = .ok (.iload_n 1, 1) := by decide +kernel
theorem dX_instantiate_88 : decode cX_instantiate 88 = .ok (.iconst 2, 1) := by decide +kernel
theorem dX_instantiate_89 : decode cX_instantiate 89 = .ok (.iload 5, 2) := by decide +kernel
theorem dX_instantiate_91 : decode cX_instantiate 91 = .ok (.imul, 1) := by decide +kernel
theorem dX_instantiate_92 : decode cX_instantiate 92 = .ok (.invokevirtual 84, 3) := by decide +kernel
theorem dX_instantiate_95 : decode cX_instantiate 95 = .ok (.pop, 1) := by decide +kernel
theorem dX_instantiate_96 : decode cX_instantiate 96 = .ok (.iconst 2, 1) := by decide +kernel
theorem dX_instantiate_97 : decode cX_instantiate 97 = .ok (.iload 5, 2) := by decide +kernel
theorem dX_instantiate_99 : decode cX_instantiate 99 = .ok (.imul, 1) := by decide +kernel
theorem dX_instantiate_100 : decode cX_instantiate 100 = .ok (.ireturn, 1) := by decide +kernel
theorem dX_set_0 : decode cX_set 0 = .ok (.iload_n 1, 1) := by decide +kernel
theorem dX_set_1 : decode cX_set 1 = .ok (.invokestatic 57, 3) := by decide +kernel
theorem dX_set_4 : decode cX_set 4 = .ok (.ifCond .ne 11, 3) := by decide +kernel
theorem dX_set_7 : decode cX_set 7 = .ok (.new 61, 3) := by decide +kernel
theorem dX_set_10 : decode cX_set 10 = .ok (.dup, 1) := by decide +kernel
theorem dX_set_11 : decode cX_set 11 = .ok (.invokespecial 63, 3) := by decide +kernel
theorem dX_set_14 : decode cX_set 14 = .ok (.athrow, 1) := by decide +kernel
theorem dX_set_15 : decode cX_set 15 = .ok (.aload_n 0, 1) := by decide +kernel
theorem dX_set_16 : decode cX_set 16 = .ok (.iload_n 2, 1) := by decide +kernel
theorem dX_set_17 : decode cX_set 17 = .ok (.invokevirtual 64, 3) := by decide +kernel
theorem dX_set_20 : decode cX_set 20 = .ok (.ifCond .ne 11, 3) := by decide +kernel
theorem dX_set_23 : decode cX_set 23 = .ok (.new 67, 3) := by decide +kernel
theorem dX_set_26 : decode cX_set 26 = .ok (.dup, 1) := by decide +kernel
theorem dX_set_27 : decode cX_set 27 = .ok (.invokespecial 69, 3) := by decide +kernel
theorem dX_set_30 : decode cX_set 30 = .ok (.athrow, 1) := by decide +kernel
theorem dX_set_31 : decode cX_set 31 = .ok (.aload_n 0, 1) := by decide +kernel
theorem dX_set_32 : decode cX_set 32 = .ok (.iload_n 1, 1) := by decide +kernel
theorem dX_set_33 : decode cX_set 33 = .ok (.iload_n 2, 1) := by decide +kernel
theorem dX_set_34 : decode cX_set 34 = .ok (.invokevirtual 84, 3) := by decide +kernel
theorem dX_set_37 : decode cX_set 37 = .ok (.ireturn, 1) := by decide +kernel
theorem dX_register_0 : decode cX_register 0 = .ok (.iload_n 1, 1) := by decide +kernel
theorem dX_register_1 : decode cX_register 1 = .ok (.invokestatic 57, 3) := by decide +kernel
theorem dX_register_4 : decode cX_register 4 = .ok (.ifCond .ne 11, 3) := by decide +kernel
theorem dX_register_7 : decode cX_register 7 = .ok (.new 61, 3) := by decide +kernel
theorem dX_register_10 : decode cX_register 10 = .ok (.dup, 1) := by decide +kernel
theorem dX_register_11 : decode cX_register 11 = .ok (.invokespecial 63, 3) := by decide +kernel
theorem dX_register_14 : decode cX_register 14 = .ok (.athrow, 1) := by decide +kernel
theorem dX_register_15 : decode cX_register 15 = .ok (.aload_n 0, 1) := by decide +kernel
theorem dX_register_16 : decode cX_register 16 = .ok (.getfield 28, 3) := by decide +kernel
theorem dX_register_19 : decode cX_register 19 = .ok (.iload_n 1, 1) := by decide +kernel
theorem dX_register_20 : decode cX_register 20 = .ok (.iaload, 1) := by decide +kernel
theorem dX_register_21 : decode cX_register 21 = .ok (.ireturn, 1) := by decide +kernel
theorem dX_fetch_0 : decode cX_fetch 0 = .ok (.aload_n 0, 1) := by decide +kernel
theorem dX_fetch_1 : decode cX_fetch 1 = .ok (.iload_n 1, 1) := by decide +kernel
theorem dX_fetch_2 : decode cX_fetch 2 = .ok (.invokevirtual 87, 3) := by decide +kernel
theorem dX_fetch_5 : decode cX_fetch 5 = .ok (.ifCond .ne 11, 3) := by decide +kernel
theorem dX_fetch_8 : decode cX_fetch 8 = .ok (.new 67, 3) := by decide +kernel
theorem dX_fetch_11 : decode cX_fetch 11 = .ok (.dup, 1) := by decide +kernel
theorem dX_fetch_12 : decode cX_fetch 12 = .ok (.invokespecial 69, 3) := by decide +kernel
theorem dX_fetch_15 : decode cX_fetch 15 = .ok (.athrow, 1) := by decide +kernel
theorem dX_fetch_16 : decode cX_fetch 16 = .ok (.aload_n 0, 1) := by decide +kernel
theorem dX_fetch_17 : decode cX_fetch 17 = .ok (.iload_n 1, 1) := by decide +kernel
theorem dX_fetch_18 : decode cX_fetch 18 = .ok (.iload_n 2, 1) := by decide +kernel
theorem dX_fetch_19 : decode cX_fetch 19 = .ok (.invokevirtual 90, 3) := by decide +kernel
theorem dX_fetch_22 : decode cX_fetch 22 = .ok (.ifCond .ne 11, 3) := by decide +kernel
theorem dX_fetch_25 : decode cX_fetch 25 = .ok (.new 61, 3) := by decide +kernel
theorem dX_fetch_28 : decode cX_fetch 28 = .ok (.dup, 1) := by decide +kernel
theorem dX_fetch_29 : decode cX_fetch 29 = .ok (.invokespecial 63, 3) := by decide +kernel
theorem dX_fetch_32 : decode cX_fetch 32 = .ok (.athrow, 1) := by decide +kernel
theorem dX_fetch_33 : decode cX_fetch 33 = .ok (.aload_n 0, 1) := by decide +kernel
theorem dX_fetch_34 : decode cX_fetch 34 = .ok (.getfield 18, 3) := by decide +kernel
theorem dX_fetch_37 : decode cX_fetch 37 = .ok (.aload_n 0, 1) := by decide +kernel
theorem dX_fetch_38 : decode cX_fetch 38 = .ok (.iload_n 1, 1) := by decide +kernel
theorem dX_fetch_39 : decode cX_fetch 39 = .ok (.iload_n 2, 1) := by decide +kernel
theorem dX_fetch_40 : decode cX_fetch 40 = .ok (.invokevirtual 94, 3) := by decide +kernel
theorem dX_fetch_43 : decode cX_fetch 43 = .ok (.iaload, 1) := by decide +kernel
theorem dX_fetch_44 : decode cX_fetch 44 = .ok (.ireturn, 1) := by decide +kernel
theorem dX_store_0 : decode cX_store 0 = .ok (.aload_n 0, 1) := by decide +kernel
theorem dX_store_1 : decode cX_store 1 = .ok (.iload_n 1, 1) := by decide +kernel
theorem dX_store_2 : decode cX_store 2 = .ok (.invokevirtual 87, 3) := by decide +kernel
theorem dX_store_5 : decode cX_store 5 = .ok (.ifCond .ne 11, 3) := by decide +kernel
theorem dX_store_8 : decode cX_store 8 = .ok (.new 67, 3) := by decide +kernel
theorem dX_store_11 : decode cX_store 11 = .ok (.dup, 1) := by decide +kernel
theorem dX_store_12 : decode cX_store 12 = .ok (.invokespecial 69, 3) := by decide +kernel
theorem dX_store_15 : decode cX_store 15 = .ok (.athrow, 1) := by decide +kernel
theorem dX_store_16 : decode cX_store 16 = .ok (.aload_n 0, 1) := by decide +kernel
theorem dX_store_17 : decode cX_store 17 = .ok (.iload_n 1, 1) := by decide +kernel
theorem dX_store_18 : decode cX_store 18 = .ok (.iload_n 2, 1) := by decide +kernel
theorem dX_store_19 : decode cX_store 19 = .ok (.invokevirtual 90, 3) := by decide +kernel
theorem dX_store_22 : decode cX_store 22 = .ok (.ifCond .ne 11, 3) := by decide +kernel
theorem dX_store_25 : decode cX_store 25 = .ok (.new 61, 3) := by decide +kernel
theorem dX_store_28 : decode cX_store 28 = .ok (.dup, 1) := by decide +kernel
theorem dX_store_29 : decode cX_store 29 = .ok (.invokespecial 63, 3) := by decide +kernel
theorem dX_store_32 : decode cX_store 32 = .ok (.athrow, 1) := by decide +kernel
theorem dX_store_33 : decode cX_store 33 = .ok (.aload_n 0, 1) := by decide +kernel
theorem dX_store_34 : decode cX_store 34 = .ok (.iload_n 3, 1) := by decide +kernel
theorem dX_store_35 : decode cX_store 35 = .ok (.invokevirtual 64, 3) := by decide +kernel
theorem dX_store_38 : decode cX_store 38 = .ok (.ifCond .ne 11, 3) := by decide +kernel
theorem dX_store_41 : decode cX_store 41 = .ok (.new 67, 3) := by decide +kernel
theorem dX_store_44 : decode cX_store 44 = .ok (.dup, 1) := by decide +kernel
theorem dX_store_45 : decode cX_store 45 = .ok (.invokespecial 69, 3) := by decide +kernel
theorem dX_store_48 : decode cX_store 48 = .ok (.athrow, 1) := by decide +kernel
theorem dX_store_49 : decode cX_store 49 = .ok (.aload_n 0, 1) := by decide +kernel
theorem dX_store_50 : decode cX_store 50 = .ok (.iload_n 1, 1) := by decide +kernel
theorem dX_store_51 : decode cX_store 51 = .ok (.iload_n 2, 1) := by decide +kernel
theorem dX_store_52 : decode cX_store 52 = .ok (.invokevirtual 94, 3) := by decide +kernel
theorem dX_store_55 : decode cX_store 55 = .ok (.istore 4, 2) := by decide +kernel
theorem dX_store_57 : decode cX_store 57 = .ok (.aload_n 0, 1) := by decide +kernel
theorem dX_store_58 : decode cX_store 58 = .ok (.getfield 18, 3) := by decide +kernel
theorem dX_store_61 : decode cX_store 61 = .ok (.iload 4, 2) := by decide +kernel
theorem dX_store_63 : decode cX_store 63 = .ok (.iaload, 1) := by decide +kernel
theorem dX_store_64 : decode cX_store 64 = .ok (.istore 5, 2) := by decide +kernel
theorem dX_store_66 : decode cX_store 66 = .ok (.aload_n 0, 1) := by decide +kernel
theorem dX_store_67 : decode cX_store 67 = .ok (.iload_n 3, 1) := by decide +kernel
theorem dX_store_68 : decode cX_store 68 = .ok (.invokevirtual 97, 3) := by decide +kernel
theorem dX_store_71 : decode cX_store 71 = .ok (.aload_n 0, 1) := by decide +kernel
theorem dX_store_72 : decode cX_store 72 = .ok (.getfield 18, 3) := by decide +kernel
theorem dX_store_75 : decode cX_store 75 = .ok (.iload 4, 2) := by decide +kernel
theorem dX_store_77 : decode cX_store 77 = .ok (.iload_n 3, 1) := by decide +kernel
theorem dX_store_78 : decode cX_store 78 = .ok (.iastore, 1) := by decide +kernel
theorem dX_store_79 : decode cX_store 79 = .ok (.aload_n 0, 1) := by decide +kernel
theorem dX_store_80 : decode cX_store 80 = .ok (.iload 5, 2) := by decide +kernel
theorem dX_store_82 : decode cX_store 82 = .ok (.iconst 0, 1) := by decide +kernel
theorem dX_store_83 : decode cX_store 83 = .ok (.invokevirtual 100, 3) := by decide +kernel
theorem dX_store_86 : decode cX_store 86 = .ok (.iload 5, 2) := by decide +kernel
theorem dX_store_88 : decode cX_store 88 = .ok (.ireturn, 1) := by decide +kernel
theorem dX_type_0 : decode cX_type 0 = .ok (.aload_n 0, 1) := by decide +kernel
theorem dX_type_1 : decode cX_type 1 = .ok (.iload_n 1, 1) := by decide +kernel
theorem dX_type_2 : decode cX_type 2 = .ok (.invokevirtual 87, 3) := by decide +kernel
theorem dX_type_5 : decode cX_type 5 = .ok (.ifCond .ne 11, 3) := by decide +kernel
theorem dX_type_8 : decode cX_type 8 = .ok (.new 67, 3) := by decide +kernel
theorem dX_type_11 : decode cX_type 11 = .ok (.dup, 1) := by decide +kernel
theorem dX_type_12 : decode cX_type 12 = .ok (.invokespecial 69, 3) := by decide +kernel
theorem dX_type_15 : decode cX_type 15 = .ok (.athrow, 1) := by decide +kernel
theorem dX_type_16 : decode cX_type 16 = .ok (.aload_n 0, 1) := by decide +kernel
theorem dX_type_17 : decode cX_type 17 = .ok (.getfield 18, 3) := by decide +kernel
theorem dX_type_20 : decode cX_type 20 = .ok (.aload_n 0, 1) := by decide +kernel
theorem dX_type_21 : decode cX_type 21 = .ok (.getfield 22, 3) := by decide +kernel
theorem dX_type_24 : decode cX_type 24 = .ok (.iload_n 1, 1) := by decide +kernel
theorem dX_type_25 : decode cX_type 25 = .ok (.iconst 2, 1) := by decide +kernel
theorem dX_type_26 : decode cX_type 26 = .ok (.idiv, 1) := by decide +kernel
theorem dX_type_27 : decode cX_type 27 = .ok (.iaload, 1) := by decide +kernel
theorem dX_type_28 : decode cX_type 28 = .ok (.iconst 1, 1) := by decide +kernel
theorem dX_type_29 : decode cX_type 29 = .ok (.iadd, 1) := by decide +kernel
theorem dX_type_30 : decode cX_type 30 = .ok (.iaload, 1) := by decide +kernel
theorem dX_type_31 : decode cX_type 31 = .ok (.ireturn, 1) := by decide +kernel
theorem dX_fields_0 : decode cX_fields 0 = .ok (.aload_n 0, 1) := by decide +kernel
theorem dX_fields_1 : decode cX_fields 1 = .ok (.iload_n 1, 1) := by decide +kernel
theorem dX_fields_2 : decode cX_fields 2 = .ok (.invokevirtual 87, 3) := by decide +kernel
theorem dX_fields_5 : decode cX_fields 5 = .ok (.ifCond .ne 11, 3) := by decide +kernel
theorem dX_fields_8 : decode cX_fields 8 = .ok (.new 67, 3) := by decide +kernel
theorem dX_fields_11 : decode cX_fields 11 = .ok (.dup, 1) := by decide +kernel
theorem dX_fields_12 : decode cX_fields 12 = .ok (.invokespecial 69, 3) := by decide +kernel
theorem dX_fields_15 : decode cX_fields 15 = .ok (.athrow, 1) := by decide +kernel
theorem dX_fields_16 : decode cX_fields 16 = .ok (.aload_n 0, 1) := by decide +kernel
theorem dX_fields_17 : decode cX_fields 17 = .ok (.getfield 18, 3) := by decide +kernel
theorem dX_fields_20 : decode cX_fields 20 = .ok (.aload_n 0, 1) := by decide +kernel
theorem dX_fields_21 : decode cX_fields 21 = .ok (.getfield 22, 3) := by decide +kernel
theorem dX_fields_24 : decode cX_fields 24 = .ok (.iload_n 1, 1) := by decide +kernel
theorem dX_fields_25 : decode cX_fields 25 = .ok (.iconst 2, 1) := by decide +kernel
theorem dX_fields_26 : decode cX_fields 26 = .ok (.idiv, 1) := by decide +kernel
theorem dX_fields_27 : decode cX_fields 27 = .ok (.iaload, 1) := by decide +kernel
theorem dX_fields_28 : decode cX_fields 28 = .ok (.iaload, 1) := by decide +kernel
theorem dX_fields_29 : decode cX_fields 29 = .ok (.ireturn, 1) := by decide +kernel
theorem dX_become_0 : decode cX_become 0 = .ok (.aload_n 0, 1) := by decide +kernel
theorem dX_become_1 : decode cX_become 1 = .ok (.iload_n 1, 1) := by decide +kernel
theorem dX_become_2 : decode cX_become 2 = .ok (.invokevirtual 87, 3) := by decide +kernel
theorem dX_become_5 : decode cX_become 5 = .ok (.ifCond .eq 11, 3) := by decide +kernel
theorem dX_become_8 : decode cX_become 8 = .ok (.aload_n 0, 1) := by decide +kernel
theorem dX_become_9 : decode cX_become 9 = .ok (.iload_n 2, 1) := by decide +kernel
theorem dX_become_10 : decode cX_become 10 = .ok (.invokevirtual 87, 3) := by decide +kernel
theorem dX_become_13 : decode cX_become 13 = .ok (.ifCond .ne 11, 3) := by decide +kernel
theorem dX_become_16 : decode cX_become 16 = .ok (.new 67, 3) := by decide +kernel
theorem dX_become_19 : decode cX_become 19 = .ok (.dup, 1) := by decide +kernel
theorem dX_become_20 : decode cX_become 20 = .ok (.invokespecial 69, 3) := by decide +kernel
theorem dX_become_23 : decode cX_become 23 = .ok (.athrow, 1) := by decide +kernel
theorem dX_become_24 : decode cX_become 24 = .ok (.aload_n 0, 1) := by decide +kernel
theorem dX_become_25 : decode cX_become 25 = .ok (.getfield 22, 3) := by decide +kernel
theorem dX_become_28 : decode cX_become 28 = .ok (.iload_n 1, 1) := by decide +kernel
theorem dX_become_29 : decode cX_become 29 = .ok (.iconst 2, 1) := by decide +kernel
theorem dX_become_30 : decode cX_become 30 = .ok (.idiv, 1) := by decide +kernel
theorem dX_become_31 : decode cX_become 31 = .ok (.iaload, 1) := by decide +kernel
theorem dX_become_32 : decode cX_become 32 = .ok (.istore_n 3, 1) := by decide +kernel
theorem dX_become_33 : decode cX_become 33 = .ok (.aload_n 0, 1) := by decide +kernel
theorem dX_become_34 : decode cX_become 34 = .ok (.getfield 22, 3) := by decide +kernel
theorem dX_become_37 : decode cX_become 37 = .ok (.iload_n 1, 1) := by decide +kernel
theorem dX_become_38 : decode cX_become 38 = .ok (.iconst 2, 1) := by decide +kernel
theorem dX_become_39 : decode cX_become 39 = .ok (.idiv, 1) := by decide +kernel
theorem dX_become_40 : decode cX_become 40 = .ok (.aload_n 0, 1) := by decide +kernel
theorem dX_become_41 : decode cX_become 41 = .ok (.getfield 22, 3) := by decide +kernel
theorem dX_become_44 : decode cX_become 44 = .ok (.iload_n 2, 1) := by decide +kernel
theorem dX_become_45 : decode cX_become 45 = .ok (.iconst 2, 1) := by decide +kernel
theorem dX_become_46 : decode cX_become 46 = .ok (.idiv, 1) := by decide +kernel
theorem dX_become_47 : decode cX_become 47 = .ok (.iaload, 1) := by decide +kernel
theorem dX_become_48 : decode cX_become 48 = .ok (.iastore, 1) := by decide +kernel
theorem dX_become_49 : decode cX_become 49 = .ok (.aload_n 0, 1) := by decide +kernel
theorem dX_become_50 : decode cX_become 50 = .ok (.getfield 22, 3) := by decide +kernel
theorem dX_become_53 : decode cX_become 53 = .ok (.iload_n 2, 1) := by decide +kernel
theorem dX_become_54 : decode cX_become 54 = .ok (.iconst 2, 1) := by decide +kernel
theorem dX_become_55 : decode cX_become 55 = .ok (.idiv, 1) := by decide +kernel
theorem dX_become_56 : decode cX_become 56 = .ok (.iload_n 3, 1) := by decide +kernel
theorem dX_become_57 : decode cX_become 57 = .ok (.iastore, 1) := by decide +kernel
theorem dX_become_58 : decode cX_become 58 = .ok (.return_, 1) := by decide +kernel
theorem dX_collect_0 : decode cX_collect 0 = .ok (.aload_n 0, 1) := by decide +kernel
theorem dX_collect_1 : decode cX_collect 1 = .ok (.iconst 0, 1) := by decide +kernel
theorem dX_collect_2 : decode cX_collect 2 = .ok (.invokevirtual 104, 3) := by decide +kernel
theorem dX_collect_5 : decode cX_collect 5 = .ok (.ireturn, 1) := by decide +kernel
theorem dX_compact_0 : decode cX_compact 0 = .ok (.aload_n 0, 1) := by decide +kernel
theorem dX_compact_1 : decode cX_compact 1 = .ok (.invokevirtual 108, 3) := by decide +kernel
theorem dX_compact_4 : decode cX_compact 4 = .ok (.ireturn, 1) := by decide +kernel
theorem dX_exists_0 : decode cX_exists 0 = .ok (.aload_n 0, 1) := by decide +kernel
theorem dX_exists_1 : decode cX_exists 1 = .ok (.iload_n 1, 1) := by decide +kernel
theorem dX_exists_2 : decode cX_exists 2 = .ok (.invokevirtual 87, 3) := by decide +kernel
theorem dX_exists_5 : decode cX_exists 5 = .ok (.ireturn, 1) := by decide +kernel
theorem dX_count_0 : decode cX_count 0 = .ok (.aload_n 0, 1) := by decide +kernel
theorem dX_count_1 : decode cX_count 1 = .ok (.iload_n 1, 1) := by decide +kernel
theorem dX_count_2 : decode cX_count 2 = .ok (.invokevirtual 87, 3) := by decide +kernel
theorem dX_count_5 : decode cX_count 5 = .ok (.ifCond .eq 14, 3) := by decide +kernel
theorem dX_count_8 : decode cX_count 8 = .ok (.aload_n 0, 1) := by decide +kernel
theorem dX_count_9 : decode cX_count 9 = .ok (.getfield 25, 3) := by decide +kernel
theorem dX_count_12 : decode cX_count 12 = .ok (.iload_n 1, 1) := by decide +kernel
theorem dX_count_13 : decode cX_count 13 = .ok (.iconst 2, 1) := by decide +kernel
theorem dX_count_14 : decode cX_count 14 = .ok (.idiv, 1) := by decide +kernel
theorem dX_count_15 : decode cX_count 15 = .ok (.iaload, 1) := by decide +kernel
theorem dX_count_16 : decode cX_count 16 = .ok (.goto 4, 3) := by decide +kernel
theorem dX_count_19 : decode cX_count 19 = .ok (.iconst 0, 1) := by decide +kernel
theorem dX_count_20 : decode cX_count 20 = .ok (.ireturn, 1) := by decide +kernel
theorem dX_address_0 : decode cX_address 0 = .ok (.aload_n 0, 1) := by decide +kernel
theorem dX_address_1 : decode cX_address 1 = .ok (.iload_n 1, 1) := by decide +kernel
theorem dX_address_2 : decode cX_address 2 = .ok (.invokevirtual 87, 3) := by decide +kernel
theorem dX_address_5 : decode cX_address 5 = .ok (.ifCond .eq 14, 3) := by decide +kernel
theorem dX_address_8 : decode cX_address 8 = .ok (.aload_n 0, 1) := by decide +kernel
theorem dX_address_9 : decode cX_address 9 = .ok (.getfield 22, 3) := by decide +kernel
theorem dX_address_12 : decode cX_address 12 = .ok (.iload_n 1, 1) := by decide +kernel
theorem dX_address_13 : decode cX_address 13 = .ok (.iconst 2, 1) := by decide +kernel
theorem dX_address_14 : decode cX_address 14 = .ok (.idiv, 1) := by decide +kernel
theorem dX_address_15 : decode cX_address 15 = .ok (.iaload, 1) := by decide +kernel
theorem dX_address_16 : decode cX_address 16 = .ok (.goto 4, 3) := by decide +kernel
theorem dX_address_19 : decode cX_address 19 = .ok (.iconst (-1), 1) := by decide +kernel
theorem dX_address_20 : decode cX_address 20 = .ok (.ireturn, 1) := by decide +kernel
theorem dX_chunks_0 : decode cX_chunks 0 = .ok (.iload_n 1, 1) := by decide +kernel
theorem dX_chunks_1 : decode cX_chunks 1 = .ok (.ifCond .ne 13, 3) := by decide +kernel
theorem dX_chunks_4 : decode cX_chunks 4 = .ok (.aload_n 0, 1) := by decide +kernel
theorem dX_chunks_5 : decode cX_chunks 5 = .ok (.getfield 36, 3) := by decide +kernel
theorem dX_chunks_8 : decode cX_chunks 8 = .ok (.getfield 111, 3) := by decide +kernel
theorem dX_chunks_11 : decode cX_chunks 11 = .ok (.goto 11, 3) := by decide +kernel
theorem dX_chunks_14 : decode cX_chunks 14 = .ok (.aload_n 0, 1) := by decide +kernel
theorem dX_chunks_15 : decode cX_chunks 15 = .ok (.getfield 36, 3) := by decide +kernel
theorem dX_chunks_18 : decode cX_chunks 18 = .ok (.iload_n 1, 1) := by decide +kernel
theorem dX_chunks_19 : decode cX_chunks 19 = .ok (.invokevirtual 114, 3) := by decide +kernel
theorem dX_chunks_22 : decode cX_chunks 22 = .ok (.ireturn, 1) := by decide +kernel
theorem dX_free_0 : decode cX_free 0 = .ok (.aload_n 0, 1) := by decide +kernel
theorem dX_free_1 : decode cX_free 1 = .ok (.getfield 36, 3) := by decide +kernel
theorem dX_free_4 : decode cX_free 4 = .ok (.invokevirtual 117, 3) := by decide +kernel
theorem dX_free_7 : decode cX_free 7 = .ok (.ireturn, 1) := by decide +kernel
theorem dX_objects_0 : decode cX_objects 0 = .ok (.iconst 0, 1) := by decide +kernel
theorem dX_objects_1 : decode cX_objects 1 = .ok (.istore_n 1, 1) := by decide +kernel
theorem dX_objects_2 : decode cX_objects 2 = .ok (.iconst 1, 1) := by decide +kernel
theorem dX_objects_3 : decode cX_objects 3 = .ok (.istore_n 2, 1) := by decide +kernel
theorem dX_objects_4 : decode cX_objects 4 = .ok (.iload_n 2, 1) := by decide +kernel
theorem dX_objects_5 : decode cX_objects 5 = .ok (.aload_n 0, 1) := by decide +kernel
theorem dX_objects_6 : decode cX_objects 6 = .ok (.getfield 22, 3) := by decide +kernel
theorem dX_objects_9 : decode cX_objects 9 = .ok (.arraylength, 1) := by decide +kernel
theorem dX_objects_10 : decode cX_objects 10 = .ok (.if_icmp .ge 20, 3) := by decide +kernel
theorem dX_objects_13 : decode cX_objects 13 = .ok (.aload_n 0, 1) := by decide +kernel
theorem dX_objects_14 : decode cX_objects 14 = .ok (.iload_n 2, 1) := by decide +kernel
theorem dX_objects_15 : decode cX_objects 15 = .ok (.invokevirtual 120, 3) := by decide +kernel
theorem dX_objects_18 : decode cX_objects 18 = .ok (.ifCond .eq 6, 3) := by decide +kernel
theorem dX_objects_21 : decode cX_objects 21 = .ok (.iinc 1 1, 3) := by decide +kernel
theorem dX_objects_24 : decode cX_objects 24 = .ok (.iinc 2 1, 3) := by decide +kernel
theorem dX_objects_27 : decode cX_objects 27 = .ok (.goto (-23), 3) := by decide +kernel
theorem dX_objects_30 : decode cX_objects 30 = .ok (.iload_n 1, 1) := by decide +kernel
theorem dX_objects_31 : decode cX_objects 31 = .ok (.ireturn, 1) := by decide +kernel
theorem dX_isRegister_0 : decode cX_isRegister 0 = .ok (.iload_n 0, 1) := by decide +kernel
theorem dX_isRegister_1 : decode cX_isRegister 1 = .ok (.ifCond .lt 13, 3) := by decide +kernel
theorem dX_isRegister_4 : decode cX_isRegister 4 = .ok (.iload_n 0, 1) := by decide +kernel
theorem dX_isRegister_5 : decode cX_isRegister 5 = .ok (.bipush 8, 2) := by decide +kernel
theorem dX_isRegister_7 : decode cX_isRegister 7 = .ok (.if_icmp .ge 7, 3) := by decide +kernel
theorem dX_isRegister_10 : decode cX_isRegister 10 = .ok (.iconst 1, 1) := by decide +kernel
theorem dX_isRegister_11 : decode cX_isRegister 11 = .ok (.goto 4, 3) := by decide +kernel
theorem dX_isRegister_14 : decode cX_isRegister 14 = .ok (.iconst 0, 1) := by decide +kernel
theorem dX_isRegister_15 : decode cX_isRegister 15 = .ok (.ireturn, 1) := by decide +kernel
theorem dX_isUsed_0 : decode cX_isUsed 0 = .ok (.aload_n 0, 1) := by decide +kernel
theorem dX_isUsed_1 : decode cX_isUsed 1 = .ok (.getfield 22, 3) := by decide +kernel
theorem dX_isUsed_4 : decode cX_isUsed 4 = .ok (.iload_n 1, 1) := by decide +kernel
theorem dX_isUsed_5 : decode cX_isUsed 5 = .ok (.iaload, 1) := by decide +kernel
theorem dX_isUsed_6 : decode cX_isUsed 6 = .ok (.iconst (-1), 1) := by decide +kernel
theorem dX_isUsed_7 : decode cX_isUsed 7 = .ok (.if_icmp .eq 7, 3) := by decide +kernel
theorem dX_isUsed_10 : decode cX_isUsed 10 = .ok (.iconst 1, 1) := by decide +kernel
theorem dX_isUsed_11 : decode cX_isUsed 11 = .ok (.goto 4, 3) := by decide +kernel
theorem dX_isUsed_14 : decode cX_isUsed 14 = .ok (.iconst 0, 1) := by decide +kernel
theorem dX_isUsed_15 : decode cX_isUsed 15 = .ok (.ireturn, 1) := by decide +kernel
theorem dX_isObject_0 : decode cX_isObject 0 = .ok (.iload_n 1, 1) := by decide +kernel
theorem dX_isObject_1 : decode cX_isObject 1 = .ok (.ifCond .le 34, 3) := by decide +kernel
theorem dX_isObject_4 : decode cX_isObject 4 = .ok (.iload_n 1, 1) := by decide +kernel
theorem dX_isObject_5 : decode cX_isObject 5 = .ok (.iconst 2, 1) := by decide +kernel
theorem dX_isObject_6 : decode cX_isObject 6 = .ok (.irem, 1) := by decide +kernel
theorem dX_isObject_7 : decode cX_isObject 7 = .ok (.ifCond .ne 28, 3) := by decide +kernel
theorem dX_isObject_10 : decode cX_isObject 10 = .ok (.iload_n 1, 1) := by decide +kernel
theorem dX_isObject_11 : decode cX_isObject 11 = .ok (.iconst 2, 1) := by decide +kernel
theorem dX_isObject_12 : decode cX_isObject 12 = .ok (.idiv, 1) := by decide +kernel
theorem dX_isObject_13 : decode cX_isObject 13 = .ok (.aload_n 0, 1) := by decide +kernel
theorem dX_isObject_14 : decode cX_isObject 14 = .ok (.getfield 22, 3) := by decide +kernel
theorem dX_isObject_17 : decode cX_isObject 17 = .ok (.arraylength, 1) := by decide +kernel
theorem dX_isObject_18 : decode cX_isObject 18 = .ok (.if_icmp .ge 17, 3) := by decide +kernel
theorem dX_isObject_21 : decode cX_isObject 21 = .ok (.aload_n 0, 1) := by decide +kernel
theorem dX_isObject_22 : decode cX_isObject 22 = .ok (.iload_n 1, 1) := by decide +kernel
theorem dX_isObject_23 : decode cX_isObject 23 = .ok (.iconst 2, 1) := by decide +kernel
theorem dX_isObject_24 : decode cX_isObject 24 = .ok (.idiv, 1) := by decide +kernel
theorem dX_isObject_25 : decode cX_isObject 25 = .ok (.invokevirtual 120, 3) := by decide +kernel
theorem dX_isObject_28 : decode cX_isObject 28 = .ok (.ifCond .eq 7, 3) := by decide +kernel
theorem dX_isObject_31 : decode cX_isObject 31 = .ok (.iconst 1, 1) := by decide +kernel
theorem dX_isObject_32 : decode cX_isObject 32 = .ok (.goto 4, 3) := by decide +kernel
theorem dX_isObject_35 : decode cX_isObject 35 = .ok (.iconst 0, 1) := by decide +kernel
theorem dX_isObject_36 : decode cX_isObject 36 = .ok (.ireturn, 1) := by decide +kernel
theorem dX_isValue_0 : decode cX_isValue 0 = .ok (.iload_n 1, 1) := by decide +kernel
theorem dX_isValue_1 : decode cX_isValue 1 = .ok (.ifCond .eq 17, 3) := by decide +kernel
theorem dX_isValue_4 : decode cX_isValue 4 = .ok (.iload_n 1, 1) := by decide +kernel
theorem dX_isValue_5 : decode cX_isValue 5 = .ok (.iconst 2, 1) := by decide +kernel
theorem dX_isValue_6 : decode cX_isValue 6 = .ok (.irem, 1) := by decide +kernel
theorem dX_isValue_7 : decode cX_isValue 7 = .ok (.ifCond .ne 11, 3) := by decide +kernel
theorem dX_isValue_10 : decode cX_isValue 10 = .ok (.aload_n 0, 1) := by decide +kernel
theorem dX_isValue_11 : decode cX_isValue 11 = .ok (.iload_n 1, 1) := by decide +kernel
theorem dX_isValue_12 : decode cX_isValue 12 = .ok (.invokevirtual 87, 3) := by decide +kernel
theorem dX_isValue_15 : decode cX_isValue 15 = .ok (.ifCond .eq 7, 3) := by decide +kernel
theorem dX_isValue_18 : decode cX_isValue 18 = .ok (.iconst 1, 1) := by decide +kernel
theorem dX_isValue_19 : decode cX_isValue 19 = .ok (.goto 4, 3) := by decide +kernel
theorem dX_isValue_22 : decode cX_isValue 22 = .ok (.iconst 0, 1) := by decide +kernel
theorem dX_isValue_23 : decode cX_isValue 23 = .ok (.ireturn, 1) := by decide +kernel
theorem dX_hasField_0 : decode cX_hasField 0 = .ok (.iload_n 2, 1) := by decide +kernel
theorem dX_hasField_1 : decode cX_hasField 1 = .ok (.ifCond .lt 24, 3) := by decide +kernel
theorem dX_hasField_4 : decode cX_hasField 4 = .ok (.iload_n 2, 1) := by decide +kernel
theorem dX_hasField_5 : decode cX_hasField 5 = .ok (.aload_n 0, 1) := by decide +kernel
theorem dX_hasField_6 : decode cX_hasField 6 = .ok (.getfield 18, 3) := by decide +kernel
theorem dX_hasField_9 : decode cX_hasField 9 = .ok (.aload_n 0, 1) := by decide +kernel
theorem dX_hasField_10 : decode cX_hasField 10 = .ok (.getfield 22, 3) := by decide +kernel
theorem dX_hasField_13 : decode cX_hasField 13 = .ok (.iload_n 1, 1) := by decide +kernel
theorem dX_hasField_14 : decode cX_hasField 14 = .ok (.iconst 2, 1) := by decide +kernel
theorem dX_hasField_15 : decode cX_hasField 15 = .ok (.idiv, 1) := by decide +kernel
theorem dX_hasField_16 : decode cX_hasField 16 = .ok (.iaload, 1) := by decide +kernel
theorem dX_hasField_17 : decode cX_hasField 17 = .ok (.iaload, 1) := by decide +kernel
theorem dX_hasField_18 : decode cX_hasField 18 = .ok (.if_icmp .ge 7, 3) := by decide +kernel
theorem dX_hasField_21 : decode cX_hasField 21 = .ok (.iconst 1, 1) := by decide +kernel
theorem dX_hasField_22 : decode cX_hasField 22 = .ok (.goto 4, 3) := by decide +kernel
theorem dX_hasField_25 : decode cX_hasField 25 = .ok (.iconst 0, 1) := by decide +kernel
theorem dX_hasField_26 : decode cX_hasField 26 = .ok (.ireturn, 1) := by decide +kernel
theorem dX_fieldWord_0 : decode cX_fieldWord 0 = .ok (.aload_n 0, 1) := by decide +kernel
theorem dX_fieldWord_1 : decode cX_fieldWord 1 = .ok (.getfield 22, 3) := by decide +kernel
theorem dX_fieldWord_4 : decode cX_fieldWord 4 = .ok (.iload_n 1, 1) := by decide +kernel
theorem dX_fieldWord_5 : decode cX_fieldWord 5 = .ok (.iconst 2, 1) := by decide +kernel
theorem dX_fieldWord_6 : decode cX_fieldWord 6 = .ok (.idiv, 1) := by decide +kernel
theorem dX_fieldWord_7 : decode cX_fieldWord 7 = .ok (.iaload, 1) := by decide +kernel
theorem dX_fieldWord_8 : decode cX_fieldWord 8 = .ok (.iconst 2, 1) := by decide +kernel
theorem dX_fieldWord_9 : decode cX_fieldWord 9 = .ok (.iadd, 1) := by decide +kernel
theorem dX_fieldWord_10 : decode cX_fieldWord 10 = .ok (.iload_n 2, 1) := by decide +kernel
theorem dX_fieldWord_11 : decode cX_fieldWord 11 = .ok (.iadd, 1) := by decide +kernel
theorem dX_fieldWord_12 : decode cX_fieldWord 12 = .ok (.ireturn, 1) := by decide +kernel
theorem dX_wordsOf_0 : decode cX_wordsOf 0 = .ok (.aload_n 0, 1) := by decide +kernel
theorem dX_wordsOf_1 : decode cX_wordsOf 1 = .ok (.getfield 18, 3) := by decide +kernel
theorem dX_wordsOf_4 : decode cX_wordsOf 4 = .ok (.aload_n 0, 1) := by decide +kernel
theorem dX_wordsOf_5 : decode cX_wordsOf 5 = .ok (.getfield 22, 3) := by decide +kernel
theorem dX_wordsOf_8 : decode cX_wordsOf 8 = .ok (.iload_n 1, 1) := by decide +kernel
theorem dX_wordsOf_9 : decode cX_wordsOf 9 = .ok (.iaload, 1) := by decide +kernel
theorem dX_wordsOf_10 : decode cX_wordsOf 10 = .ok (.iaload, 1) := by decide +kernel
theorem dX_wordsOf_11 : decode cX_wordsOf 11 = .ok (.iconst 2, 1) := by decide +kernel
theorem dX_wordsOf_12 : decode cX_wordsOf 12 = .ok (.iadd, 1) := by decide +kernel
theorem dX_wordsOf_13 : decode cX_wordsOf 13 = .ok (.ireturn, 1) := by decide +kernel
theorem dX_leastFreeEntry_0 : decode cX_leastFreeEntry 0 = .ok (.iconst 1, 1) := by decide +kernel
theorem dX_leastFreeEntry_1 : decode cX_leastFreeEntry 1 = .ok (.istore_n 1, 1) := by decide +kernel
theorem dX_leastFreeEntry_2 : decode cX_leastFreeEntry 2 = .ok (.iload_n 1, 1) := by decide +kernel
theorem dX_leastFreeEntry_3 : decode cX_leastFreeEntry 3 = .ok (.aload_n 0, 1) := by decide +kernel
theorem dX_leastFreeEntry_4 : decode cX_leastFreeEntry 4 = .ok (.getfield 22, 3) := by decide +kernel
theorem dX_leastFreeEntry_7 : decode cX_leastFreeEntry 7 = .ok (.arraylength, 1) := by decide +kernel
theorem dX_leastFreeEntry_8 : decode cX_leastFreeEntry 8 = .ok (.if_icmp .ge 19, 3) := by decide +kernel
theorem dX_leastFreeEntry_11 : decode cX_leastFreeEntry 11 = .ok (.aload_n 0, 1) := by decide +kernel
theorem dX_leastFreeEntry_12 : decode cX_leastFreeEntry 12 = .ok (.iload_n 1, 1) := by decide +kernel
theorem dX_leastFreeEntry_13 : decode cX_leastFreeEntry 13 = .ok (.invokevirtual 120, 3) := by decide +kernel
theorem dX_leastFreeEntry_16 : decode cX_leastFreeEntry 16 = .ok (.ifCond .ne 5, 3) := by decide +kernel
theorem dX_leastFreeEntry_19 : decode cX_leastFreeEntry 19 = .ok (.iload_n 1, 1) := by decide +kernel
theorem dX_leastFreeEntry_20 : decode cX_leastFreeEntry 20 = .ok (.ireturn, 1) := by decide +kernel
theorem dX_leastFreeEntry_21 : decode cX_leastFreeEntry 21 = .ok (.iinc 1 1, 3) := by decide +kernel
theorem dX_leastFreeEntry_24 : decode cX_leastFreeEntry 24 = .ok (.goto (-22), 3) := by decide +kernel
theorem dX_leastFreeEntry_27 : decode cX_leastFreeEntry 27 = .ok (.iconst 0, 1) := by decide +kernel
theorem dX_leastFreeEntry_28 : decode cX_leastFreeEntry 28 = .ok (.ireturn, 1) := by decide +kernel
theorem dX_makeObject_0 : decode cX_makeObject 0 = .ok (.aload_n 0, 1) := by decide +kernel
theorem dX_makeObject_1 : decode cX_makeObject 1 = .ok (.iload_n 3, 1) := by decide +kernel
theorem dX_makeObject_2 : decode cX_makeObject 2 = .ok (.invokevirtual 97, 3) := by decide +kernel
theorem dX_makeObject_5 : decode cX_makeObject 5 = .ok (.aload_n 0, 1) := by decide +kernel
theorem dX_makeObject_6 : decode cX_makeObject 6 = .ok (.getfield 22, 3) := by decide +kernel
theorem dX_makeObject_9 : decode cX_makeObject 9 = .ok (.iload_n 1, 1) := by decide +kernel
theorem dX_makeObject_10 : decode cX_makeObject 10 = .ok (.iload_n 2, 1) := by decide +kernel
theorem dX_makeObject_11 : decode cX_makeObject 11 = .ok (.iastore, 1) := by decide +kernel
theorem dX_makeObject_12 : decode cX_makeObject 12 = .ok (.aload_n 0, 1) := by decide +kernel
theorem dX_makeObject_13 : decode cX_makeObject 13 = .ok (.getfield 25, 3) := by decide +kernel
theorem dX_makeObject_16 : decode cX_makeObject 16 = .ok (.iload_n 1, 1) := by decide +kernel
theorem dX_makeObject_17 : decode cX_makeObject 17 = .ok (.iconst 0, 1) := by decide +kernel
theorem dX_makeObject_18 : decode cX_makeObject 18 = .ok (.iastore, 1) := by decide +kernel
theorem dX_makeObject_19 : decode cX_makeObject 19 = .ok (.aload_n 0, 1) := by decide +kernel
theorem dX_makeObject_20 : decode cX_makeObject 20 = .ok (.getfield 18, 3) := by decide +kernel
theorem dX_makeObject_23 : decode cX_makeObject 23 = .ok (.iload_n 2, 1) := by decide +kernel
theorem dX_makeObject_24 : decode cX_makeObject 24 = .ok (.iload 4, 2) := by decide +kernel
theorem dX_makeObject_26 : decode cX_makeObject 26 = .ok (.iastore, 1) := by decide +kernel
theorem dX_makeObject_27 : decode cX_makeObject 27 = .ok (.aload_n 0, 1) := by decide +kernel
theorem dX_makeObject_28 : decode cX_makeObject 28 = .ok (.getfield 18, 3) := by decide +kernel
theorem dX_makeObject_31 : decode cX_makeObject 31 = .ok (.iload_n 2, 1) := by decide +kernel
theorem dX_makeObject_32 : decode cX_makeObject 32 = .ok (.iconst 1, 1) := by decide +kernel
theorem dX_makeObject_33 : decode cX_makeObject 33 = .ok (.iadd, 1) := by decide +kernel
theorem dX_makeObject_34 : decode cX_makeObject 34 = .ok (.iload_n 3, 1) := by decide +kernel
theorem dX_makeObject_35 : decode cX_makeObject 35 = .ok (.iastore, 1) := by decide +kernel
theorem dX_makeObject_36 : decode cX_makeObject 36 = .ok (.iconst 0, 1) := by decide +kernel
theorem dX_makeObject_37 : decode cX_makeObject 37 = .ok (.istore 5, 2) := by decide +kernel
theorem dX_makeObject_39 : decode cX_makeObject 39 = .ok (.iload 5, 2) := by decide +kernel
theorem dX_makeObject_41 : decode cX_makeObject 41 = .ok (.iload 4, 2) := by decide +kernel
theorem dX_makeObject_43 : decode cX_makeObject 43 = .ok (.if_icmp .ge 21, 3) := by decide +kernel
theorem dX_makeObject_46 : decode cX_makeObject 46 = .ok (.aload_n 0, 1) := by decide +kernel
theorem dX_makeObject_47 : decode cX_makeObject 47 = .ok (.getfield 18, 3) := by decide +kernel
theorem dX_makeObject_50 : decode cX_makeObject 50 = .ok (.iload_n 2, 1) := by decide +kernel
theorem dX_makeObject_51 : decode cX_makeObject 51 = .ok (.iconst 2, 1) := by decide +kernel
theorem dX_makeObject_52 : decode cX_makeObject 52 = .ok (.iadd, 1) := by decide +kernel
theorem dX_makeObject_53 : decode cX_makeObject 53 = .ok (.iload 5, 2) := by decide +kernel
theorem dX_makeObject_55 : decode cX_makeObject 55 = .ok (.iadd, 1) := by decide +kernel
theorem dX_makeObject_56 : decode cX_makeObject 56 = .ok (.iconst 0, 1) := by decide +kernel
theorem dX_makeObject_57 : decode cX_makeObject 57 = .ok (.iastore, 1) := by decide +kernel
theorem dX_makeObject_58 : decode cX_makeObject 58 = .ok (.iinc 5 1, 3) := by decide +kernel
theorem dX_makeObject_61 : decode cX_makeObject 61 = .ok (.goto (-22), 3) := by decide +kernel
theorem dX_makeObject_64 : decode cX_makeObject 64 = .ok (.return_, 1) := by decide +kernel
theorem dX_replaceRegister_0 : decode cX_replaceRegister 0 = .ok (.aload_n 0, 1) := by decide +kernel
theorem dX_replaceRegister_1 : decode cX_replaceRegister 1 = .ok (.getfield 28, 3) := by decide +kernel
theorem dX_replaceRegister_4 : decode cX_replaceRegister 4 = .ok (.iload_n 1, 1) := by decide +kernel
theorem dX_replaceRegister_5 : decode cX_replaceRegister 5 = .ok (.iaload, 1) := by decide +kernel
theorem dX_replaceRegister_6 : decode cX_replaceRegister 6 = .ok (.istore_n 3, 1) := by decide +kernel
theorem dX_replaceRegister_7 : decode cX_replaceRegister 7 = .ok (.aload_n 0, 1) := by decide +kernel
theorem dX_replaceRegister_8 : decode cX_replaceRegister 8 = .ok (.iload_n 2, 1) := by decide +kernel
theorem dX_replaceRegister_9 : decode cX_replaceRegister 9 = .ok (.invokevirtual 97, 3) := by decide +kernel
theorem dX_replaceRegister_12 : decode cX_replaceRegister 12 = .ok (.aload_n 0, 1) := by decide +kernel
theorem dX_replaceRegister_13 : decode cX_replaceRegister 13 = .ok (.getfield 28, 3) := by decide +kernel
theorem dX_replaceRegister_16 : decode cX_replaceRegister 16 = .ok (.iload_n 1, 1) := by decide +kernel
theorem dX_replaceRegister_17 : decode cX_replaceRegister 17 = .ok (.iload_n 2, 1) := by decide +kernel
theorem dX_replaceRegister_18 : decode cX_replaceRegister 18 = .ok (.iastore, 1) := by decide +kernel
theorem dX_replaceRegister_19 : decode cX_replaceRegister 19 = .ok (.aload_n 0, 1) := by decide +kernel
theorem dX_replaceRegister_20 : decode cX_replaceRegister 20 = .ok (.iload_n 3, 1) := by decide +kernel
theorem dX_replaceRegister_21 : decode cX_replaceRegister 21 = .ok (.iconst 0, 1) := by decide +kernel
theorem dX_replaceRegister_22 : decode cX_replaceRegister 22 = .ok (.invokevirtual 100, 3) := by decide +kernel
theorem dX_replaceRegister_25 : decode cX_replaceRegister 25 = .ok (.iload_n 3, 1) := by decide +kernel
theorem dX_replaceRegister_26 : decode cX_replaceRegister 26 = .ok (.ireturn, 1) := by decide +kernel
theorem dX_addReference_0 : decode cX_addReference 0 = .ok (.aload_n 0, 1) := by decide +kernel
theorem dX_addReference_1 : decode cX_addReference 1 = .ok (.iload_n 1, 1) := by decide +kernel
theorem dX_addReference_2 : decode cX_addReference 2 = .ok (.invokevirtual 87, 3) := by decide +kernel
theorem dX_addReference_5 : decode cX_addReference 5 = .ok (.ifCond .eq 28, 3) := by decide +kernel
theorem dX_addReference_8 : decode cX_addReference 8 = .ok (.aload_n 0, 1) := by decide +kernel
theorem dX_addReference_9 : decode cX_addReference 9 = .ok (.getfield 25, 3) := by decide +kernel
theorem dX_addReference_12 : decode cX_addReference 12 = .ok (.iload_n 1, 1) := by decide +kernel
theorem dX_addReference_13 : decode cX_addReference 13 = .ok (.iconst 2, 1) := by decide +kernel
theorem dX_addReference_14 : decode cX_addReference 14 = .ok (.idiv, 1) := by decide +kernel
theorem dX_addReference_15 : decode cX_addReference 15 = .ok (.iaload, 1) := by decide +kernel
theorem dX_addReference_16 : decode cX_addReference 16 = .ok (.bipush 7, 2) := by decide +kernel
theorem dX_addReference_18 : decode cX_addReference 18 = .ok (.if_icmp .ge 15, 3) := by decide +kernel
theorem dX_addReference_21 : decode cX_addReference 21 = .ok (.aload_n 0, 1) := by decide +kernel
theorem dX_addReference_22 : decode cX_addReference 22 = .ok (.getfield 25, 3) := by decide +kernel
theorem dX_addReference_25 : decode cX_addReference 25 = .ok (.iload_n 1, 1) := by decide +kernel
theorem dX_addReference_26 : decode cX_addReference 26 = .ok (.iconst 2, 1) := by decide +kernel
theorem dX_addReference_27 : decode cX_addReference 27 = .ok (.idiv, 1) := by decide +kernel
theorem dX_addReference_28 : decode cX_addReference 28 = .ok (.dup2, 1) := by decide +kernel
theorem dX_addReference_29 : decode cX_addReference 29 = .ok (.iaload, 1) := by decide +kernel
theorem dX_addReference_30 : decode cX_addReference 30 = .ok (.iconst 1, 1) := by decide +kernel
theorem dX_addReference_31 : decode cX_addReference 31 = .ok (.iadd, 1) := by decide +kernel
theorem dX_addReference_32 : decode cX_addReference 32 = .ok (.iastore, 1) := by decide +kernel
theorem dX_addReference_33 : decode cX_addReference 33 = .ok (.return_, 1) := by decide +kernel
theorem dX_dropReference_0 : decode cX_dropReference 0 = .ok (.aload_n 0, 1) := by decide +kernel
theorem dX_dropReference_1 : decode cX_dropReference 1 = .ok (.iload_n 1, 1) := by decide +kernel
theorem dX_dropReference_2 : decode cX_dropReference 2 = .ok (.invokevirtual 87, 3) := by decide +kernel
theorem dX_dropReference_5 : decode cX_dropReference 5 = .ok (.ifCond .eq 16, 3) := by decide +kernel
theorem dX_dropReference_8 : decode cX_dropReference 8 = .ok (.aload_n 0, 1) := by decide +kernel
theorem dX_dropReference_9 : decode cX_dropReference 9 = .ok (.getfield 25, 3) := by decide +kernel
theorem dX_dropReference_12 : decode cX_dropReference 12 = .ok (.iload_n 1, 1) := by decide +kernel
theorem dX_dropReference_13 : decode cX_dropReference 13 = .ok (.iconst 2, 1) := by decide +kernel
theorem dX_dropReference_14 : decode cX_dropReference 14 = .ok (.idiv, 1) := by decide +kernel
theorem dX_dropReference_15 : decode cX_dropReference 15 = .ok (.iaload, 1) := by decide +kernel
theorem dX_dropReference_16 : decode cX_dropReference 16 = .ok (.bipush 7, 2) := by decide +kernel
theorem dX_dropReference_18 : decode cX_dropReference 18 = .ok (.if_icmp .ne 4, 3) := by decide +kernel
theorem dX_dropReference_21 : decode cX_dropReference 21 = .ok (.return_, 1) := by decide +kernel
theorem dX_dropReference_22 : decode cX_dropReference 22 = .ok (.aload_n 0, 1) := by decide +kernel
theorem dX_dropReference_23 : decode cX_dropReference 23 = .ok (.getfield 25, 3) := by decide +kernel
theorem dX_dropReference_26 : decode cX_dropReference 26 = .ok (.iload_n 1, 1) := by decide +kernel
theorem dX_dropReference_27 : decode cX_dropReference 27 = .ok (.iconst 2, 1) := by decide +kernel
theorem dX_dropReference_28 : decode cX_dropReference 28 = .ok (.idiv, 1) := by decide +kernel
theorem dX_dropReference_29 : decode cX_dropReference 29 = .ok (.dup2, 1) := by decide +kernel
theorem dX_dropReference_30 : decode cX_dropReference 30 = .ok (.iaload, 1) := by decide +kernel
theorem dX_dropReference_31 : decode cX_dropReference 31 = .ok (.iconst 1, 1) := by decide +kernel
theorem dX_dropReference_32 : decode cX_dropReference 32 = .ok (.isub, 1) := by decide +kernel
theorem dX_dropReference_33 : decode cX_dropReference 33 = .ok (.iastore, 1) := by decide +kernel
theorem dX_dropReference_34 : decode cX_dropReference 34 = .ok (.aload_n 0, 1) := by decide +kernel
theorem dX_dropReference_35 : decode cX_dropReference 35 = .ok (.getfield 25, 3) := by decide +kernel
theorem dX_dropReference_38 : decode cX_dropReference 38 = .ok (.iload_n 1, 1) := by decide +kernel
theorem dX_dropReference_39 : decode cX_dropReference 39 = .ok (.iconst 2, 1) := by decide +kernel
theorem dX_dropReference_40 : decode cX_dropReference 40 = .ok (.idiv, 1) := by decide +kernel
theorem dX_dropReference_41 : decode cX_dropReference 41 = .ok (.iaload, 1) := by decide +kernel
theorem dX_dropReference_42 : decode cX_dropReference 42 = .ok (.ifCond .ne 11, 3) := by decide +kernel
theorem dX_dropReference_45 : decode cX_dropReference 45 = .ok (.aload_n 0, 1) := by decide +kernel
theorem dX_dropReference_46 : decode cX_dropReference 46 = .ok (.iload_n 1, 1) := by decide +kernel
theorem dX_dropReference_47 : decode cX_dropReference 47 = .ok (.iconst 2, 1) := by decide +kernel
theorem dX_dropReference_48 : decode cX_dropReference 48 = .ok (.idiv, 1) := by decide +kernel
theorem dX_dropReference_49 : decode cX_dropReference 49 = .ok (.iload_n 2, 1) := by decide +kernel
theorem dX_dropReference_50 : decode cX_dropReference 50 = .ok (.invokevirtual 123, 3) := by decide +kernel
theorem dX_dropReference_53 : decode cX_dropReference 53 = .ok (.return_, 1) := by decide +kernel
theorem dX_letGo_0 : decode cX_letGo 0 = .ok (.iload_n 2, 1) := by decide +kernel
theorem dX_letGo_1 : decode cX_letGo 1 = .ok (.bipush 40, 2) := by decide +kernel
theorem dX_letGo_3 : decode cX_letGo 3 = .ok (.if_icmp .lt 4, 3) := by decide +kernel
theorem dX_letGo_6 : decode cX_letGo 6 = .ok (.return_, 1) := by decide +kernel
theorem dX_letGo_7 : decode cX_letGo 7 = .ok (.aload_n 0, 1) := by decide +kernel
theorem dX_letGo_8 : decode cX_letGo 8 = .ok (.getfield 22, 3) := by decide +kernel
theorem dX_letGo_11 : decode cX_letGo 11 = .ok (.iload_n 1, 1) := by decide +kernel
theorem dX_letGo_12 : decode cX_letGo 12 = .ok (.iaload, 1) := by decide +kernel
theorem dX_letGo_13 : decode cX_letGo 13 = .ok (.aload_n 0, 1) := by decide +kernel
theorem dX_letGo_14 : decode cX_letGo 14 = .ok (.iload_n 1, 1) := by decide +kernel
theorem dX_letGo_15 : decode cX_letGo 15 = .ok (.invokevirtual 126, 3) := by decide +kernel
theorem dX_letGo_18 : decode cX_letGo 18 = .ok (.iadd, 1) := by decide +kernel
theorem dX_letGo_19 : decode cX_letGo 19 = .ok (.istore_n 3, 1) := by decide +kernel
theorem dX_letGo_20 : decode cX_letGo 20 = .ok (.aload_n 0, 1) := by decide +kernel
theorem dX_letGo_21 : decode cX_letGo 21 = .ok (.getfield 22, 3) := by decide +kernel
theorem dX_letGo_24 : decode cX_letGo 24 = .ok (.iload_n 1, 1) := by decide +kernel
theorem dX_letGo_25 : decode cX_letGo 25 = .ok (.iaload, 1) := by decide +kernel
theorem dX_letGo_26 : decode cX_letGo 26 = .ok (.iconst 1, 1) := by decide +kernel
theorem dX_letGo_27 : decode cX_letGo 27 = .ok (.iadd, 1) := by decide +kernel
theorem dX_letGo_28 : decode cX_letGo 28 = .ok (.istore 4, 2) := by decide +kernel
theorem dX_letGo_30 : decode cX_letGo 30 = .ok (.iload 4, 2) := by decide +kernel
theorem dX_letGo_32 : decode cX_letGo 32 = .ok (.iload_n 3, 1) := by decide +kernel
theorem dX_letGo_33 : decode cX_letGo 33 = .ok (.if_icmp .ge 23, 3) := by decide +kernel
theorem dX_letGo_36 : decode cX_letGo 36 = .ok (.aload_n 0, 1) := by decide +kernel
theorem dX_letGo_37 : decode cX_letGo 37 = .ok (.aload_n 0, 1) := by decide +kernel
theorem dX_letGo_38 : decode cX_letGo 38 = .ok (.getfield 18, 3) := by decide +kernel
theorem dX_letGo_41 : decode cX_letGo 41 = .ok (.iload 4, 2) := by decide +kernel
theorem dX_letGo_43 : decode cX_letGo 43 = .ok (.iaload, 1) := by decide +kernel
theorem dX_letGo_44 : decode cX_letGo 44 = .ok (.iload_n 2, 1) := by decide +kernel
theorem dX_letGo_45 : decode cX_letGo 45 = .ok (.iconst 1, 1) := by decide +kernel
theorem dX_letGo_46 : decode cX_letGo 46 = .ok (.iadd, 1) := by decide +kernel
theorem dX_letGo_47 : decode cX_letGo 47 = .ok (.invokevirtual 100, 3) := by decide +kernel
theorem dX_letGo_50 : decode cX_letGo 50 = .ok (.iinc 4 1, 3) := by decide +kernel
theorem dX_letGo_53 : decode cX_letGo 53 = .ok (.goto (-23), 3) := by decide +kernel
theorem dX_letGo_56 : decode cX_letGo 56 = .ok (.aload_n 0, 1) := by decide +kernel
theorem dX_letGo_57 : decode cX_letGo 57 = .ok (.iload_n 1, 1) := by decide +kernel
theorem dX_letGo_58 : decode cX_letGo 58 = .ok (.invokevirtual 129, 3) := by decide +kernel
theorem dX_letGo_61 : decode cX_letGo 61 = .ok (.return_, 1) := by decide +kernel
theorem dX_freeEntry_0 : decode cX_freeEntry 0 = .ok (.aload_n 0, 1) := by decide +kernel
theorem dX_freeEntry_1 : decode cX_freeEntry 1 = .ok (.getfield 36, 3) := by decide +kernel
theorem dX_freeEntry_4 : decode cX_freeEntry 4 = .ok (.aload_n 0, 1) := by decide +kernel
theorem dX_freeEntry_5 : decode cX_freeEntry 5 = .ok (.getfield 22, 3) := by decide +kernel
theorem dX_freeEntry_8 : decode cX_freeEntry 8 = .ok (.iload_n 1, 1) := by decide +kernel
theorem dX_freeEntry_9 : decode cX_freeEntry 9 = .ok (.iaload, 1) := by decide +kernel
theorem dX_freeEntry_10 : decode cX_freeEntry 10 = .ok (.aload_n 0, 1) := by decide +kernel
theorem dX_freeEntry_11 : decode cX_freeEntry 11 = .ok (.iload_n 1, 1) := by decide +kernel
theorem dX_freeEntry_12 : decode cX_freeEntry 12 = .ok (.invokevirtual 126, 3) := by decide +kernel
theorem dX_freeEntry_15 : decode cX_freeEntry 15 = .ok (.invokevirtual 132, 3) := by decide +kernel
theorem dX_freeEntry_18 : decode cX_freeEntry 18 = .ok (.aload_n 0, 1) := by decide +kernel
theorem dX_freeEntry_19 : decode cX_freeEntry 19 = .ok (.getfield 22, 3) := by decide +kernel
theorem dX_freeEntry_22 : decode cX_freeEntry 22 = .ok (.iload_n 1, 1) := by decide +kernel
theorem dX_freeEntry_23 : decode cX_freeEntry 23 = .ok (.iconst (-1), 1) := by decide +kernel
theorem dX_freeEntry_24 : decode cX_freeEntry 24 = .ok (.iastore, 1) := by decide +kernel
theorem dX_freeEntry_25 : decode cX_freeEntry 25 = .ok (.return_, 1) := by decide +kernel
theorem dX_findRoom_0 : decode cX_findRoom 0 = .ok (.iconst 0, 1) := by decide +kernel
theorem dX_findRoom_1 : decode cX_findRoom 1 = .ok (.istore_n 3, 1) := by decide +kernel
theorem dX_findRoom_2 : decode cX_findRoom 2 = .ok (.aload_n 0, 1) := by decide +kernel
theorem dX_findRoom_3 : decode cX_findRoom 3 = .ok (.invokevirtual 73, 3) := by decide +kernel
theorem dX_findRoom_6 : decode cX_findRoom 6 = .ok (.ifCond .ne 20, 3) := by decide +kernel
theorem dX_findRoom_9 : decode cX_findRoom 9 = .ok (.aload_n 0, 1) := by decide +kernel
theorem dX_findRoom_10 : decode cX_findRoom 10 = .ok (.iload_n 2, 1) := by decide +kernel
theorem dX_findRoom_11 : decode cX_findRoom 11 = .ok (.invokevirtual 104, 3) := by decide +kernel
theorem dX_findRoom_14 : decode cX_findRoom 14 = .ok (.pop, 1) := by decide +kernel
theorem dX_findRoom_15 : decode cX_findRoom 15 = .ok (.iconst 1, 1) := by decide +kernel
theorem dX_findRoom_16 : decode cX_findRoom 16 = .ok (.istore_n 3, 1) := by decide +kernel
theorem dX_findRoom_17 : decode cX_findRoom 17 = .ok (.aload_n 0, 1) := by decide +kernel
theorem dX_findRoom_18 : decode cX_findRoom 18 = .ok (.invokevirtual 73, 3) := by decide +kernel
theorem dX_findRoom_21 : decode cX_findRoom 21 = .ok (.ifCond .ne 5, 3) := by decide +kernel
theorem dX_findRoom_24 : decode cX_findRoom 24 = .ok (.iconst (-1), 1) := by decide +kernel
theorem dX_findRoom_25 : decode cX_findRoom 25 = .ok (.ireturn, 1) := by decide +kernel
theorem dX_findRoom_26 : decode cX_findRoom 26 = .ok (.aload_n 0, 1) := by decide +kernel
theorem dX_findRoom_27 : decode cX_findRoom 27 = .ok (.iload_n 1, 1) := by decide +kernel
theorem dX_findRoom_28 : decode cX_findRoom 28 = .ok (.invokevirtual 135, 3) := by decide +kernel
theorem dX_findRoom_31 : decode cX_findRoom 31 = .ok (.istore 4, 2) := by decide +kernel
theorem dX_findRoom_33 : decode cX_findRoom 33 = .ok (.iload 4, 2) := by decide +kernel
theorem dX_findRoom_35 : decode cX_findRoom 35 = .ok (.iconst (-1), 1) := by decide +kernel
theorem dX_findRoom_36 : decode cX_findRoom 36 = .ok (.if_icmp .ne 20, 3) := by decide +kernel
theorem dX_findRoom_39 : decode cX_findRoom 39 = .ok (.iload_n 3, 1) := by decide +kernel
theorem dX_findRoom_40 : decode cX_findRoom 40 = .ok (.ifCond .ne 16, 3) := by decide +kernel
theorem dX_findRoom_43 : decode cX_findRoom 43 = .ok (.aload_n 0, 1) := by decide +kernel
theorem dX_findRoom_44 : decode cX_findRoom 44 = .ok (.iload_n 2, 1) := by decide +kernel
theorem dX_findRoom_45 : decode cX_findRoom 45 = .ok (.invokevirtual 104, 3) := by decide +kernel
theorem dX_findRoom_48 : decode cX_findRoom 48 = .ok (.pop, 1) := by decide +kernel
theorem dX_findRoom_49 : decode cX_findRoom 49 = .ok (.aload_n 0, 1) := by decide +kernel
theorem dX_findRoom_50 : decode cX_findRoom 50 = .ok (.iload_n 1, 1) := by decide +kernel
theorem dX_findRoom_51 : decode cX_findRoom 51 = .ok (.invokevirtual 135, 3) := by decide +kernel
theorem dX_findRoom_54 : decode cX_findRoom 54 = .ok (.istore 4, 2) := by decide +kernel
theorem dX_findRoom_56 : decode cX_findRoom 56 = .ok (.iload 4, 2) := by decide +kernel
theorem dX_findRoom_58 : decode cX_findRoom 58 = .ok (.ireturn, 1) := by decide +kernel
theorem dX_place_0 : decode cX_place 0 = .ok (.aload_n 0, 1) := by decide +kernel
theorem dX_place_1 : decode cX_place 1 = .ok (.getfield 36, 3) := by decide +kernel
theorem dX_place_4 : decode cX_place 4 = .ok (.iload_n 1, 1) := by decide +kernel
theorem dX_place_5 : decode cX_place 5 = .ok (.invokevirtual 138, 3) := by decide +kernel
theorem dX_place_8 : decode cX_place 8 = .ok (.istore_n 2, 1) := by decide +kernel
theorem dX_place_9 : decode cX_place 9 = .ok (.iload_n 2, 1) := by decide +kernel
theorem dX_place_10 : decode cX_place 10 = .ok (.iconst (-1), 1) := by decide +kernel
theorem dX_place_11 : decode cX_place 11 = .ok (.if_icmp .ne 28, 3) := by decide +kernel
theorem dX_place_14 : decode cX_place 14 = .ok (.aload_n 0, 1) := by decide +kernel
theorem dX_place_15 : decode cX_place 15 = .ok (.getfield 36, 3) := by decide +kernel
theorem dX_place_18 : decode cX_place 18 = .ok (.invokevirtual 117, 3) := by decide +kernel
theorem dX_place_21 : decode cX_place 21 = .ok (.iload_n 1, 1) := by decide +kernel
theorem dX_place_22 : decode cX_place 22 = .ok (.if_icmp .lt 17, 3) := by decide +kernel
theorem dX_place_25 : decode cX_place 25 = .ok (.aload_n 0, 1) := by decide +kernel
theorem dX_place_26 : decode cX_place 26 = .ok (.invokevirtual 108, 3) := by decide +kernel
theorem dX_place_29 : decode cX_place 29 = .ok (.pop, 1) := by decide +kernel
theorem dX_place_30 : decode cX_place 30 = .ok (.aload_n 0, 1) := by decide +kernel
theorem dX_place_31 : decode cX_place 31 = .ok (.getfield 36, 3) := by decide +kernel
theorem dX_place_34 : decode cX_place 34 = .ok (.iload_n 1, 1) := by decide +kernel
theorem dX_place_35 : decode cX_place 35 = .ok (.invokevirtual 138, 3) := by decide +kernel
theorem dX_place_38 : decode cX_place 38 = .ok (.istore_n 2, 1) := by decide +kernel
theorem dX_place_39 : decode cX_place 39 = .ok (.iload_n 2, 1) := by decide +kernel
theorem dX_place_40 : decode cX_place 40 = .ok (.ireturn, 1) := by decide +kernel
theorem dX_moveTogether_0 : decode cX_moveTogether 0 = .ok (.iconst 0, 1) := by decide +kernel
theorem dX_moveTogether_1 : decode cX_moveTogether 1 = .ok (.istore_n 1, 1) := by decide +kernel
theorem dX_moveTogether_2 : decode cX_moveTogether 2 = .ok (.iconst 0, 1) := by decide +kernel
theorem dX_moveTogether_3 : decode cX_moveTogether 3 = .ok (.istore_n 2, 1) := by decide +kernel
theorem dX_moveTogether_4 : decode cX_moveTogether 4 = .ok (.iconst 1, 1) := by decide +kernel
theorem dX_moveTogether_5 : decode cX_moveTogether 5 = .ok (.istore_n 3, 1) := by decide +kernel
theorem dX_moveTogether_6 : decode cX_moveTogether 6 = .ok (.iload_n 3, 1) := by decide +kernel
theorem dX_moveTogether_7 : decode cX_moveTogether 7 = .ok (.aload_n 0, 1) := by decide +kernel
theorem dX_moveTogether_8 : decode cX_moveTogether 8 = .ok (.getfield 22, 3) := by decide +kernel
theorem dX_moveTogether_11 : decode cX_moveTogether 11 = .ok (.arraylength, 1) := by decide +kernel
theorem dX_moveTogether_12 : decode cX_moveTogether 12 = .ok (.if_icmp .ge 80, 3) := by decide +kernel
theorem dX_moveTogether_15 : decode cX_moveTogether 15 = .ok (.aload_n 0, 1) := by decide +kernel
theorem dX_moveTogether_16 : decode cX_moveTogether 16 = .ok (.iload_n 2, 1) := by decide +kernel
theorem dX_moveTogether_17 : decode cX_moveTogether 17 = .ok (.invokevirtual 141, 3) := by decide +kernel
theorem dX_moveTogether_20 : decode cX_moveTogether 20 = .ok (.istore 4, 2) := by decide +kernel
theorem dX_moveTogether_22 : decode cX_moveTogether 22 = .ok (.iload 4, 2) := by decide +kernel
theorem dX_moveTogether_24 : decode cX_moveTogether 24 = .ok (.ifCond .ne 6, 3) := by decide +kernel
theorem dX_moveTogether_27 : decode cX_moveTogether 27 = .ok (.goto 65, 3) := by decide +kernel
theorem dX_moveTogether_30 : decode cX_moveTogether 30 = .ok (.aload_n 0, 1) := by decide +kernel
theorem dX_moveTogether_31 : decode cX_moveTogether 31 = .ok (.iload 4, 2) := by decide +kernel
theorem dX_moveTogether_33 : decode cX_moveTogether 33 = .ok (.invokevirtual 126, 3) := by decide +kernel
theorem dX_moveTogether_36 : decode cX_moveTogether 36 = .ok (.istore 5, 2) := by decide +kernel
theorem dX_moveTogether_38 : decode cX_moveTogether 38 = .ok (.aload_n 0, 1) := by decide +kernel
theorem dX_moveTogether_39 : decode cX_moveTogether 39 = .ok (.getfield 22, 3) := by decide +kernel
theorem dX_moveTogether_42 : decode cX_moveTogether 42 = .ok (.iload 4, 2) := by decide +kernel
theorem dX_moveTogether_44 : decode cX_moveTogether 44 = .ok (.iaload, 1) := by decide +kernel
theorem dX_moveTogether_45 : decode cX_moveTogether 45 = .ok (.iload_n 2, 1) := by decide +kernel
theorem dX_moveTogether_46 : decode cX_moveTogether 46 = .ok (.if_icmp .eq 35, 3) := by decide +kernel
theorem dX_moveTogether_49 : decode cX_moveTogether 49 = .ok (.aload_n 0, 1) := by decide +kernel
theorem dX_moveTogether_50 : decode cX_moveTogether 50 = .ok (.getfield 18, 3) := by decide +kernel
theorem dX_moveTogether_53 : decode cX_moveTogether 53 = .ok (.aload_n 0, 1) := by decide +kernel
theorem dX_moveTogether_54 : decode cX_moveTogether 54 = .ok (.getfield 22, 3) := by decide +kernel
theorem dX_moveTogether_57 : decode cX_moveTogether 57 = .ok (.iload 4, 2) := by decide +kernel
theorem dX_moveTogether_59 : decode cX_moveTogether 59 = .ok (.iaload, 1) := by decide +kernel
theorem dX_moveTogether_60 : decode cX_moveTogether 60 = .ok (.aload_n 0, 1) := by decide +kernel
theorem dX_moveTogether_61 : decode cX_moveTogether 61 = .ok (.getfield 18, 3) := by decide +kernel
theorem dX_moveTogether_64 : decode cX_moveTogether 64 = .ok (.iload_n 2, 1) := by decide +kernel
theorem dX_moveTogether_65 : decode cX_moveTogether 65 = .ok (.iload 5, 2) := by decide +kernel
theorem dX_moveTogether_67 : decode cX_moveTogether 67 = .ok (.invokestatic 144, 3) := by decide +kernel
theorem dX_moveTogether_70 : decode cX_moveTogether 70 = .ok (.aload_n 0, 1) := by decide +kernel
theorem dX_moveTogether_71 : decode cX_moveTogether 71 = .ok (.getfield 22, 3) := by decide +kernel
theorem dX_moveTogether_74 : decode cX_moveTogether 74 = .ok (.iload 4, 2) := by decide +kernel
theorem dX_moveTogether_76 : decode cX_moveTogether 76 = .ok (.iload_n 2, 1) := by decide +kernel
theorem dX_moveTogether_77 : decode cX_moveTogether 77 = .ok (.iastore, 1) := by decide +kernel
theorem dX_moveTogether_78 : decode cX_moveTogether 78 = .ok (.iinc 1 1, 3) := by decide +kernel
theorem dX_moveTogether_81 : decode cX_moveTogether 81 = .ok (.iload_n 2, 1) := by decide +kernel
theorem dX_moveTogether_82 : decode cX_moveTogether 82 = .ok (.iload 5, 2) := by decide +kernel
theorem dX_moveTogether_84 : decode cX_moveTogether 84 = .ok (.iadd, 1) := by decide +kernel
theorem dX_moveTogether_85 : decode cX_moveTogether 85 = .ok (.istore_n 2, 1) := by decide +kernel
theorem dX_moveTogether_86 : decode cX_moveTogether 86 = .ok (.iinc 3 1, 3) := by decide +kernel
theorem dX_moveTogether_89 : decode cX_moveTogether 89 = .ok (.goto (-83), 3) := by decide +kernel
theorem dX_moveTogether_92 : decode cX_moveTogether 92 = .ok (.aload_n 0, 1) := by decide +kernel
theorem dX_moveTogether_93 : decode cX_moveTogether 93 = .ok (.getfield 36, 3) := by decide +kernel
theorem dX_moveTogether_96 : decode cX_moveTogether 96 = .ok (.invokevirtual 150, 3) := by decide +kernel
theorem dX_moveTogether_99 : decode cX_moveTogether 99 = .ok (.iload_n 2, 1) := by decide +kernel
theorem dX_moveTogether_100 : decode cX_moveTogether 100 = .ok (.aload_n 0, 1) := by decide +kernel
theorem dX_moveTogether_101 : decode cX_moveTogether 101 = .ok (.getfield 18, 3) := by decide +kernel
theorem dX_moveTogether_104 : decode cX_moveTogether 104 = .ok (.arraylength, 1) := by decide +kernel
theorem dX_moveTogether_105 : decode cX_moveTogether 105 = .ok (.if_icmp .ge 18, 3) := by decide +kernel
theorem dX_moveTogether_108 : decode cX_moveTogether 108 = .ok (.aload_n 0, 1) := by decide +kernel
theorem dX_moveTogether_109 : decode cX_moveTogether 109 = .ok (.getfield 36, 3) := by decide +kernel
theorem dX_moveTogether_112 : decode cX_moveTogether 112 = .ok (.iload_n 2, 1) := by decide +kernel
theorem dX_moveTogether_113 : decode cX_moveTogether 113 = .ok (.aload_n 0, 1) := by decide +kernel
theorem dX_moveTogether_114 : decode cX_moveTogether 114 = .ok (.getfield 18, 3) := by decide +kernel
theorem dX_moveTogether_117 : decode cX_moveTogether 117 = .ok (.arraylength, 1) := by decide +kernel
theorem dX_moveTogether_118 : decode cX_moveTogether 118 = .ok (.iload_n 2, 1) := by decide +kernel
theorem dX_moveTogether_119 : decode cX_moveTogether 119 = .ok (.isub, 1) := by decide +kernel
theorem dX_moveTogether_120 : decode cX_moveTogether 120 = .ok (.invokevirtual 132, 3) := by decide +kernel
theorem dX_moveTogether_123 : decode cX_moveTogether 123 = .ok (.iload_n 1, 1) := by decide +kernel
theorem dX_moveTogether_124 : decode cX_moveTogether 124 = .ok (.ireturn, 1) := by decide +kernel
theorem dX_lowestFrom_0 : decode cX_lowestFrom 0 = .ok (.iconst 0, 1) := by decide +kernel
theorem dX_lowestFrom_1 : decode cX_lowestFrom 1 = .ok (.istore_n 2, 1) := by decide +kernel
theorem dX_lowestFrom_2 : decode cX_lowestFrom 2 = .ok (.iconst 1, 1) := by decide +kernel
theorem dX_lowestFrom_3 : decode cX_lowestFrom 3 = .ok (.istore_n 3, 1) := by decide +kernel
theorem dX_lowestFrom_4 : decode cX_lowestFrom 4 = .ok (.iload_n 3, 1) := by decide +kernel
theorem dX_lowestFrom_5 : decode cX_lowestFrom 5 = .ok (.aload_n 0, 1) := by decide +kernel
theorem dX_lowestFrom_6 : decode cX_lowestFrom 6 = .ok (.getfield 22, 3) := by decide +kernel
theorem dX_lowestFrom_9 : decode cX_lowestFrom 9 = .ok (.arraylength, 1) := by decide +kernel
theorem dX_lowestFrom_10 : decode cX_lowestFrom 10 = .ok (.if_icmp .ge 60, 3) := by decide +kernel
theorem dX_lowestFrom_13 : decode cX_lowestFrom 13 = .ok (.aload_n 0, 1) := by decide +kernel
theorem dX_lowestFrom_14 : decode cX_lowestFrom 14 = .ok (.iload_n 3, 1) := by decide +kernel
theorem dX_lowestFrom_15 : decode cX_lowestFrom 15 = .ok (.invokevirtual 120, 3) := by decide +kernel
theorem dX_lowestFrom_18 : decode cX_lowestFrom 18 = .ok (.ifCond .eq 17, 3) := by decide +kernel
theorem dX_lowestFrom_21 : decode cX_lowestFrom 21 = .ok (.aload_n 0, 1) := by decide +kernel
theorem dX_lowestFrom_22 : decode cX_lowestFrom 22 = .ok (.getfield 22, 3) := by decide +kernel
theorem dX_lowestFrom_25 : decode cX_lowestFrom 25 = .ok (.iload_n 3, 1) := by decide +kernel
theorem dX_lowestFrom_26 : decode cX_lowestFrom 26 = .ok (.iaload, 1) := by decide +kernel
theorem dX_lowestFrom_27 : decode cX_lowestFrom 27 = .ok (.iload_n 1, 1) := by decide +kernel
theorem dX_lowestFrom_28 : decode cX_lowestFrom 28 = .ok (.if_icmp .lt 7, 3) := by decide +kernel
theorem dX_lowestFrom_31 : decode cX_lowestFrom 31 = .ok (.iconst 1, 1) := by decide +kernel
theorem dX_lowestFrom_32 : decode cX_lowestFrom 32 = .ok (.goto 4, 3) := by decide +kernel
theorem dX_lowestFrom_35 : decode cX_lowestFrom 35 = .ok (.iconst 0, 1) := by decide +kernel
theorem dX_lowestFrom_36 : decode cX_lowestFrom 36 = .ok (.istore 4, 2) := by decide +kernel
theorem dX_lowestFrom_38 : decode cX_lowestFrom 38 = .ok (.iload 4, 2) := by decide +kernel
theorem dX_lowestFrom_40 : decode cX_lowestFrom 40 = .ok (.ifCond .eq 24, 3) := by decide +kernel
theorem dX_lowestFrom_43 : decode cX_lowestFrom 43 = .ok (.iload_n 2, 1) := by decide +kernel
theorem dX_lowestFrom_44 : decode cX_lowestFrom 44 = .ok (.ifCond .eq 18, 3) := by decide +kernel
theorem dX_lowestFrom_47 : decode cX_lowestFrom 47 = .ok (.aload_n 0, 1) := by decide +kernel
theorem dX_lowestFrom_48 : decode cX_lowestFrom 48 = .ok (.getfield 22, 3) := by decide +kernel
theorem dX_lowestFrom_51 : decode cX_lowestFrom 51 = .ok (.iload_n 3, 1) := by decide +kernel
theorem dX_lowestFrom_52 : decode cX_lowestFrom 52 = .ok (.iaload, 1) := by decide +kernel
theorem dX_lowestFrom_53 : decode cX_lowestFrom 53 = .ok (.aload_n 0, 1) := by decide +kernel
theorem dX_lowestFrom_54 : decode cX_lowestFrom 54 = .ok (.getfield 22, 3) := by decide +kernel
theorem dX_lowestFrom_57 : decode cX_lowestFrom 57 = .ok (.iload_n 2, 1) := by decide +kernel
theorem dX_lowestFrom_58 : decode cX_lowestFrom 58 = .ok (.iaload, 1) := by decide +kernel
theorem dX_lowestFrom_59 : decode cX_lowestFrom 59 = .ok (.if_icmp .ge 5, 3) := by decide +kernel
theorem dX_lowestFrom_62 : decode cX_lowestFrom 62 = .ok (.iload_n 3, 1) := by decide +kernel
theorem dX_lowestFrom_63 : decode cX_lowestFrom 63 = .ok (.istore_n 2, 1) := by decide +kernel
theorem dX_lowestFrom_64 : decode cX_lowestFrom 64 = .ok (.iinc 3 1, 3) := by decide +kernel
theorem dX_lowestFrom_67 : decode cX_lowestFrom 67 = .ok (.goto (-63), 3) := by decide +kernel
theorem dX_lowestFrom_70 : decode cX_lowestFrom 70 = .ok (.iload_n 2, 1) := by decide +kernel
theorem dX_lowestFrom_71 : decode cX_lowestFrom 71 = .ok (.ireturn, 1) := by decide +kernel
theorem dX_takeUnreached_0 : decode cX_takeUnreached 0 = .ok (.aload_n 0, 1) := by decide +kernel
theorem dX_takeUnreached_1 : decode cX_takeUnreached 1 = .ok (.iload_n 1, 1) := by decide +kernel
theorem dX_takeUnreached_2 : decode cX_takeUnreached 2 = .ok (.invokevirtual 153, 3) := by decide +kernel
theorem dX_takeUnreached_5 : decode cX_takeUnreached 5 = .ok (.iconst 0, 1) := by decide +kernel
theorem dX_takeUnreached_6 : decode cX_takeUnreached 6 = .ok (.istore_n 2, 1) := by decide +kernel
theorem dX_takeUnreached_7 : decode cX_takeUnreached 7 = .ok (.iconst 1, 1) := by decide +kernel
theorem dX_takeUnreached_8 : decode cX_takeUnreached 8 = .ok (.istore_n 3, 1) := by decide +kernel
theorem dX_takeUnreached_9 : decode cX_takeUnreached 9 = .ok (.iload_n 3, 1) := by decide +kernel
theorem dX_takeUnreached_10 : decode cX_takeUnreached 10 = .ok (.aload_n 0, 1) := by decide +kernel
theorem dX_takeUnreached_11 : decode cX_takeUnreached 11 = .ok (.getfield 22, 3) := by decide +kernel
theorem dX_takeUnreached_14 : decode cX_takeUnreached 14 = .ok (.arraylength, 1) := by decide +kernel
theorem dX_takeUnreached_15 : decode cX_takeUnreached 15 = .ok (.if_icmp .ge 34, 3) := by decide +kernel
theorem dX_takeUnreached_18 : decode cX_takeUnreached 18 = .ok (.aload_n 0, 1) := by decide +kernel
theorem dX_takeUnreached_19 : decode cX_takeUnreached 19 = .ok (.iload_n 3, 1) := by decide +kernel
theorem dX_takeUnreached_20 : decode cX_takeUnreached 20 = .ok (.invokevirtual 120, 3) := by decide +kernel
theorem dX_takeUnreached_23 : decode cX_takeUnreached 23 = .ok (.ifCond .eq 20, 3) := by decide +kernel
theorem dX_takeUnreached_26 : decode cX_takeUnreached 26 = .ok (.aload_n 0, 1) := by decide +kernel
theorem dX_takeUnreached_27 : decode cX_takeUnreached 27 = .ok (.getfield 40, 3) := by decide +kernel
theorem dX_takeUnreached_30 : decode cX_takeUnreached 30 = .ok (.iload_n 3, 1) := by decide +kernel
theorem dX_takeUnreached_31 : decode cX_takeUnreached 31 = .ok (.baload, 1) := by decide +kernel
theorem dX_takeUnreached_32 : decode cX_takeUnreached 32 = .ok (.ifCond .ne 11, 3) := by decide +kernel
theorem dX_takeUnreached_35 : decode cX_takeUnreached 35 = .ok (.aload_n 0, 1) := by decide +kernel
theorem dX_takeUnreached_36 : decode cX_takeUnreached 36 = .ok (.iload_n 3, 1) := by decide +kernel
theorem dX_takeUnreached_37 : decode cX_takeUnreached 37 = .ok (.invokevirtual 129, 3) := by decide +kernel
theorem dX_takeUnreached_40 : decode cX_takeUnreached 40 = .ok (.iinc 2 1, 3) := by decide +kernel
theorem dX_takeUnreached_43 : decode cX_takeUnreached 43 = .ok (.iinc 3 1, 3) := by decide +kernel
theorem dX_takeUnreached_46 : decode cX_takeUnreached 46 = .ok (.goto (-37), 3) := by decide +kernel
theorem dX_takeUnreached_49 : decode cX_takeUnreached 49 = .ok (.aload_n 0, 1) := by decide +kernel
theorem dX_takeUnreached_50 : decode cX_takeUnreached 50 = .ok (.invokevirtual 156, 3) := by decide +kernel
theorem dX_takeUnreached_53 : decode cX_takeUnreached 53 = .ok (.iload_n 2, 1) := by decide +kernel
theorem dX_takeUnreached_54 : decode cX_takeUnreached 54 = .ok (.ireturn, 1) := by decide +kernel
theorem dX_findReached_0 : decode cX_findReached 0 = .ok (.iconst 1, 1) := by decide +kernel
theorem dX_findReached_1 : decode cX_findReached 1 = .ok (.istore_n 2, 1) := by decide +kernel
theorem dX_findReached_2 : decode cX_findReached 2 = .ok (.iload_n 2, 1) := by decide +kernel
theorem dX_findReached_3 : decode cX_findReached 3 = .ok (.aload_n 0, 1) := by decide +kernel
theorem dX_findReached_4 : decode cX_findReached 4 = .ok (.getfield 40, 3) := by decide +kernel
theorem dX_findReached_7 : decode cX_findReached 7 = .ok (.arraylength, 1) := by decide +kernel
theorem dX_findReached_8 : decode cX_findReached 8 = .ok (.if_icmp .ge 16, 3) := by decide +kernel
theorem dX_findReached_11 : decode cX_findReached 11 = .ok (.aload_n 0, 1) := by decide +kernel
theorem dX_findReached_12 : decode cX_findReached 12 = .ok (.getfield 40, 3) := by decide +kernel
theorem dX_findReached_15 : decode cX_findReached 15 = .ok (.iload_n 2, 1) := by decide +kernel
theorem dX_findReached_16 : decode cX_findReached 16 = .ok (.iconst 0, 1) := by decide +kernel
theorem dX_findReached_17 : decode cX_findReached 17 = .ok (.bastore, 1) := by decide +kernel
theorem dX_findReached_18 : decode cX_findReached 18 = .ok (.iinc 2 1, 3) := by decide +kernel
theorem dX_findReached_21 : decode cX_findReached 21 = .ok (.goto (-19), 3) := by decide +kernel
theorem dX_findReached_24 : decode cX_findReached 24 = .ok (.aload_n 0, 1) := by decide +kernel
theorem dX_findReached_25 : decode cX_findReached 25 = .ok (.iconst 0, 1) := by decide +kernel
theorem dX_findReached_26 : decode cX_findReached 26 = .ok (.putfield 47, 3) := by decide +kernel
theorem dX_findReached_29 : decode cX_findReached 29 = .ok (.iconst 0, 1) := by decide +kernel
theorem dX_findReached_30 : decode cX_findReached 30 = .ok (.istore_n 2, 1) := by decide +kernel
theorem dX_findReached_31 : decode cX_findReached 31 = .ok (.iload_n 2, 1) := by decide +kernel
theorem dX_findReached_32 : decode cX_findReached 32 = .ok (.bipush 8, 2) := by decide +kernel
theorem dX_findReached_34 : decode cX_findReached 34 = .ok (.if_icmp .ge 19, 3) := by decide +kernel
theorem dX_findReached_37 : decode cX_findReached 37 = .ok (.aload_n 0, 1) := by decide +kernel
theorem dX_findReached_38 : decode cX_findReached 38 = .ok (.aload_n 0, 1) := by decide +kernel
theorem dX_findReached_39 : decode cX_findReached 39 = .ok (.getfield 28, 3) := by decide +kernel
theorem dX_findReached_42 : decode cX_findReached 42 = .ok (.iload_n 2, 1) := by decide +kernel
theorem dX_findReached_43 : decode cX_findReached 43 = .ok (.iaload, 1) := by decide +kernel
theorem dX_findReached_44 : decode cX_findReached 44 = .ok (.invokevirtual 159, 3) := by decide +kernel
theorem dX_findReached_47 : decode cX_findReached 47 = .ok (.iinc 2 1, 3) := by decide +kernel
theorem dX_findReached_50 : decode cX_findReached 50 = .ok (.goto (-19), 3) := by decide +kernel
theorem dX_findReached_53 : decode cX_findReached 53 = .ok (.aload_n 0, 1) := by decide +kernel
theorem dX_findReached_54 : decode cX_findReached 54 = .ok (.iload_n 1, 1) := by decide +kernel
theorem dX_findReached_55 : decode cX_findReached 55 = .ok (.invokevirtual 159, 3) := by decide +kernel
theorem dX_findReached_58 : decode cX_findReached 58 = .ok (.iconst 0, 1) := by decide +kernel
theorem dX_findReached_59 : decode cX_findReached 59 = .ok (.istore_n 2, 1) := by decide +kernel
theorem dX_findReached_60 : decode cX_findReached 60 = .ok (.iload_n 2, 1) := by decide +kernel
theorem dX_findReached_61 : decode cX_findReached 61 = .ok (.aload_n 0, 1) := by decide +kernel
theorem dX_findReached_62 : decode cX_findReached 62 = .ok (.getfield 47, 3) := by decide +kernel
theorem dX_findReached_65 : decode cX_findReached 65 = .ok (.if_icmp .ge 73, 3) := by decide +kernel
theorem dX_findReached_68 : decode cX_findReached 68 = .ok (.iload_n 2, 1) := by decide +kernel
theorem dX_findReached_69 : decode cX_findReached 69 = .ok (.aload_n 0, 1) := by decide +kernel
theorem dX_findReached_70 : decode cX_findReached 70 = .ok (.getfield 44, 3) := by decide +kernel
theorem dX_findReached_73 : decode cX_findReached 73 = .ok (.arraylength, 1) := by decide +kernel
theorem dX_findReached_74 : decode cX_findReached 74 = .ok (.if_icmp .ge 64, 3) := by decide +kernel
theorem dX_findReached_77 : decode cX_findReached 77 = .ok (.aload_n 0, 1) := by decide +kernel
theorem dX_findReached_78 : decode cX_findReached 78 = .ok (.getfield 44, 3) := by decide +kernel
theorem dX_findReached_81 : decode cX_findReached 81 = .ok (.iload_n 2, 1) := by decide +kernel
theorem dX_findReached_82 : decode cX_findReached 82 = .ok (.iaload, 1) := by decide +kernel
theorem dX_findReached_83 : decode cX_findReached 83 = .ok (.istore_n 3, 1) := by decide +kernel
theorem dX_findReached_84 : decode cX_findReached 84 = .ok (.aload_n 0, 1) := by decide +kernel
theorem dX_findReached_85 : decode cX_findReached 85 = .ok (.getfield 22, 3) := by decide +kernel
theorem dX_findReached_88 : decode cX_findReached 88 = .ok (.iload_n 3, 1) := by decide +kernel
theorem dX_findReached_89 : decode cX_findReached 89 = .ok (.iaload, 1) := by decide +kernel
theorem dX_findReached_90 : decode cX_findReached 90 = .ok (.aload_n 0, 1) := by decide +kernel
theorem dX_findReached_91 : decode cX_findReached 91 = .ok (.iload_n 3, 1) := by decide +kernel
theorem dX_findReached_92 : decode cX_findReached 92 = .ok (.invokevirtual 126, 3) := by decide +kernel
theorem dX_findReached_95 : decode cX_findReached 95 = .ok (.iadd, 1) := by decide +kernel
theorem dX_findReached_96 : decode cX_findReached 96 = .ok (.istore 4, 2) := by decide +kernel
theorem dX_findReached_98 : decode cX_findReached 98 = .ok (.aload_n 0, 1) := by decide +kernel
theorem dX_findReached_99 : decode cX_findReached 99 = .ok (.getfield 22, 3) := by decide +kernel
theorem dX_findReached_102 : decode cX_findReached 102 = .ok (.iload_n 3, 1) := by decide +kernel
theorem dX_findReached_103 : decode cX_findReached 103 = .ok (.iaload, 1) := by decide +kernel
theorem dX_findReached_104 : decode cX_findReached 104 = .ok (.iconst 1, 1) := by decide +kernel
theorem dX_findReached_105 : decode cX_findReached 105 = .ok (.iadd, 1) := by decide +kernel
theorem dX_findReached_106 : decode cX_findReached 106 = .ok (.istore 5, 2) := by decide +kernel
theorem dX_findReached_108 : decode cX_findReached 108 = .ok (.iload 5, 2) := by decide +kernel
theorem dX_findReached_110 : decode cX_findReached 110 = .ok (.iload 4, 2) := by decide +kernel
theorem dX_findReached_112 : decode cX_findReached 112 = .ok (.if_icmp .ge 20, 3) := by decide +kernel
theorem dX_findReached_115 : decode cX_findReached 115 = .ok (.aload_n 0, 1) := by decide +kernel
theorem dX_findReached_116 : decode cX_findReached 116 = .ok (.aload_n 0, 1) := by decide +kernel
theorem dX_findReached_117 : decode cX_findReached 117 = .ok (.getfield 18, 3) := by decide +kernel
theorem dX_findReached_120 : decode cX_findReached 120 = .ok (.iload 5, 2) := by decide +kernel
theorem dX_findReached_122 : decode cX_findReached 122 = .ok (.iaload, 1) := by decide +kernel
theorem dX_findReached_123 : decode cX_findReached 123 = .ok (.invokevirtual 159, 3) := by decide +kernel
theorem dX_findReached_126 : decode cX_findReached 126 = .ok (.iinc 5 1, 3) := by decide +kernel
theorem dX_findReached_129 : decode cX_findReached 129 = .ok (.goto (-21), 3) := by decide +kernel
theorem dX_findReached_132 : decode cX_findReached 132 = .ok (.iinc 2 1, 3) := by decide +kernel
theorem dX_findReached_135 : decode cX_findReached 135 = .ok (.goto (-75), 3) := by decide +kernel
theorem dX_findReached_138 : decode cX_findReached 138 = .ok (.return_, 1) := by decide +kernel
theorem dX_reach_0 : decode cX_reach 0 = .ok (.aload_n 0, 1) := by decide +kernel
theorem dX_reach_1 : decode cX_reach 1 = .ok (.iload_n 1, 1) := by decide +kernel
theorem dX_reach_2 : decode cX_reach 2 = .ok (.invokevirtual 87, 3) := by decide +kernel
theorem dX_reach_5 : decode cX_reach 5 = .ok (.ifCond .eq 45, 3) := by decide +kernel
theorem dX_reach_8 : decode cX_reach 8 = .ok (.aload_n 0, 1) := by decide +kernel
theorem dX_reach_9 : decode cX_reach 9 = .ok (.getfield 40, 3) := by decide +kernel
theorem dX_reach_12 : decode cX_reach 12 = .ok (.iload_n 1, 1) := by decide +kernel
theorem dX_reach_13 : decode cX_reach 13 = .ok (.iconst 2, 1) := by decide +kernel
theorem dX_reach_14 : decode cX_reach 14 = .ok (.idiv, 1) := by decide +kernel
theorem dX_reach_15 : decode cX_reach 15 = .ok (.baload, 1) := by decide +kernel
theorem dX_reach_16 : decode cX_reach 16 = .ok (.ifCond .ne 34, 3) := by decide +kernel
theorem dX_reach_19 : decode cX_reach 19 = .ok (.aload_n 0, 1) := by decide +kernel
theorem dX_reach_20 : decode cX_reach 20 = .ok (.getfield 40, 3) := by decide +kernel
theorem dX_reach_23 : decode cX_reach 23 = .ok (.iload_n 1, 1) := by decide +kernel
theorem dX_reach_24 : decode cX_reach 24 = .ok (.iconst 2, 1) := by decide +kernel
theorem dX_reach_25 : decode cX_reach 25 = .ok (.idiv, 1) := by decide +kernel
theorem dX_reach_26 : decode cX_reach 26 = .ok (.iconst 1, 1) := by decide +kernel
theorem dX_reach_27 : decode cX_reach 27 = .ok (.bastore, 1) := by decide +kernel
theorem dX_reach_28 : decode cX_reach 28 = .ok (.aload_n 0, 1) := by decide +kernel
theorem dX_reach_29 : decode cX_reach 29 = .ok (.getfield 44, 3) := by decide +kernel
theorem dX_reach_32 : decode cX_reach 32 = .ok (.aload_n 0, 1) := by decide +kernel
theorem dX_reach_33 : decode cX_reach 33 = .ok (.getfield 47, 3) := by decide +kernel
theorem dX_reach_36 : decode cX_reach 36 = .ok (.iload_n 1, 1) := by decide +kernel
theorem dX_reach_37 : decode cX_reach 37 = .ok (.iconst 2, 1) := by decide +kernel
theorem dX_reach_38 : decode cX_reach 38 = .ok (.idiv, 1) := by decide +kernel
theorem dX_reach_39 : decode cX_reach 39 = .ok (.iastore, 1) := by decide +kernel
theorem dX_reach_40 : decode cX_reach 40 = .ok (.aload_n 0, 1) := by decide +kernel
theorem dX_reach_41 : decode cX_reach 41 = .ok (.dup, 1) := by decide +kernel
theorem dX_reach_42 : decode cX_reach 42 = .ok (.getfield 47, 3) := by decide +kernel
theorem dX_reach_45 : decode cX_reach 45 = .ok (.iconst 1, 1) := by decide +kernel
theorem dX_reach_46 : decode cX_reach 46 = .ok (.iadd, 1) := by decide +kernel
theorem dX_reach_47 : decode cX_reach 47 = .ok (.putfield 47, 3) := by decide +kernel
theorem dX_reach_50 : decode cX_reach 50 = .ok (.return_, 1) := by decide +kernel
theorem dX_countAnew_0 : decode cX_countAnew 0 = .ok (.aload_n 0, 1) := by decide +kernel
theorem dX_countAnew_1 : decode cX_countAnew 1 = .ok (.getfield 25, 3) := by decide +kernel
theorem dX_countAnew_4 : decode cX_countAnew 4 = .ok (.iconst 0, 1) := by decide +kernel
theorem dX_countAnew_5 : decode cX_countAnew 5 = .ok (.invokestatic 51, 3) := by decide +kernel
theorem dX_countAnew_8 : decode cX_countAnew 8 = .ok (.iconst 0, 1) := by decide +kernel
theorem dX_countAnew_9 : decode cX_countAnew 9 = .ok (.istore_n 1, 1) := by decide +kernel
theorem dX_countAnew_10 : decode cX_countAnew 10 = .ok (.iload_n 1, 1) := by decide +kernel
theorem dX_countAnew_11 : decode cX_countAnew 11 = .ok (.bipush 8, 2) := by decide +kernel
theorem dX_countAnew_13 : decode cX_countAnew 13 = .ok (.if_icmp .ge 19, 3) := by decide +kernel
theorem dX_countAnew_16 : decode cX_countAnew 16 = .ok (.aload_n 0, 1) := by decide +kernel
theorem dX_countAnew_17 : decode cX_countAnew 17 = .ok (.aload_n 0, 1) := by decide +kernel
theorem dX_countAnew_18 : decode cX_countAnew 18 = .ok (.getfield 28, 3) := by decide +kernel
theorem dX_countAnew_21 : decode cX_countAnew 21 = .ok (.iload_n 1, 1) := by decide +kernel
theorem dX_countAnew_22 : decode cX_countAnew 22 = .ok (.iaload, 1) := by decide +kernel
theorem dX_countAnew_23 : decode cX_countAnew 23 = .ok (.invokevirtual 97, 3) := by decide +kernel
theorem dX_countAnew_26 : decode cX_countAnew 26 = .ok (.iinc 1 1, 3) := by decide +kernel
theorem dX_countAnew_29 : decode cX_countAnew 29 = .ok (.goto (-19), 3) := by decide +kernel
theorem dX_countAnew_32 : decode cX_countAnew 32 = .ok (.iconst 0, 1) := by decide +kernel
theorem dX_countAnew_33 : decode cX_countAnew 33 = .ok (.istore_n 1, 1) := by decide +kernel
theorem dX_countAnew_34 : decode cX_countAnew 34 = .ok (.iload_n 1, 1) := by decide +kernel
theorem dX_countAnew_35 : decode cX_countAnew 35 = .ok (.aload_n 0, 1) := by decide +kernel
theorem dX_countAnew_36 : decode cX_countAnew 36 = .ok (.getfield 47, 3) := by decide +kernel
theorem dX_countAnew_39 : decode cX_countAnew 39 = .ok (.if_icmp .ge 62, 3) := by decide +kernel
theorem dX_countAnew_42 : decode cX_countAnew 42 = .ok (.aload_n 0, 1) := by decide +kernel
theorem dX_countAnew_43 : decode cX_countAnew 43 = .ok (.getfield 44, 3) := by decide +kernel
theorem dX_countAnew_46 : decode cX_countAnew 46 = .ok (.iload_n 1, 1) := by decide +kernel
theorem dX_countAnew_47 : decode cX_countAnew 47 = .ok (.iaload, 1) := by decide +kernel
theorem dX_countAnew_48 : decode cX_countAnew 48 = .ok (.istore_n 2, 1) := by decide +kernel
theorem dX_countAnew_49 : decode cX_countAnew 49 = .ok (.aload_n 0, 1) := by decide +kernel
theorem dX_countAnew_50 : decode cX_countAnew 50 = .ok (.getfield 22, 3) := by decide +kernel
theorem dX_countAnew_53 : decode cX_countAnew 53 = .ok (.iload_n 2, 1) := by decide +kernel
theorem dX_countAnew_54 : decode cX_countAnew 54 = .ok (.iaload, 1) := by decide +kernel
theorem dX_countAnew_55 : decode cX_countAnew 55 = .ok (.aload_n 0, 1) := by decide +kernel
theorem dX_countAnew_56 : decode cX_countAnew 56 = .ok (.iload_n 2, 1) := by decide +kernel
theorem dX_countAnew_57 : decode cX_countAnew 57 = .ok (.invokevirtual 126, 3) := by decide +kernel
theorem dX_countAnew_60 : decode cX_countAnew 60 = .ok (.iadd, 1) := by decide +kernel
theorem dX_countAnew_61 : decode cX_countAnew 61 = .ok (.istore_n 3, 1) := by decide +kernel
theorem dX_countAnew_62 : decode cX_countAnew 62 = .ok (.aload_n 0, 1) := by decide +kernel
theorem dX_countAnew_63 : decode cX_countAnew 63 = .ok (.getfield 22, 3) := by decide +kernel
theorem dX_countAnew_66 : decode cX_countAnew 66 = .ok (.iload_n 2, 1) := by decide +kernel
theorem dX_countAnew_67 : decode cX_countAnew 67 = .ok (.iaload, 1) := by decide +kernel
theorem dX_countAnew_68 : decode cX_countAnew 68 = .ok (.iconst 1, 1) := by decide +kernel
theorem dX_countAnew_69 : decode cX_countAnew 69 = .ok (.iadd, 1) := by decide +kernel
theorem dX_countAnew_70 : decode cX_countAnew 70 = .ok (.istore 4, 2) := by decide +kernel
theorem dX_countAnew_72 : decode cX_countAnew 72 = .ok (.iload 4, 2) := by decide +kernel
theorem dX_countAnew_74 : decode cX_countAnew 74 = .ok (.iload_n 3, 1) := by decide +kernel
theorem dX_countAnew_75 : decode cX_countAnew 75 = .ok (.if_icmp .ge 20, 3) := by decide +kernel
theorem dX_countAnew_78 : decode cX_countAnew 78 = .ok (.aload_n 0, 1) := by decide +kernel
theorem dX_countAnew_79 : decode cX_countAnew 79 = .ok (.aload_n 0, 1) := by decide +kernel
theorem dX_countAnew_80 : decode cX_countAnew 80 = .ok (.getfield 18, 3) := by decide +kernel
theorem dX_countAnew_83 : decode cX_countAnew 83 = .ok (.iload 4, 2) := by decide +kernel
theorem dX_countAnew_85 : decode cX_countAnew 85 = .ok (.iaload, 1) := by decide +kernel
theorem dX_countAnew_86 : decode cX_countAnew 86 = .ok (.invokevirtual 97, 3) := by decide +kernel
theorem dX_countAnew_89 : decode cX_countAnew 89 = .ok (.iinc 4 1, 3) := by decide +kernel
theorem dX_countAnew_92 : decode cX_countAnew 92 = .ok (.goto (-20), 3) := by decide +kernel
theorem dX_countAnew_95 : decode cX_countAnew 95 = .ok (.iinc 1 1, 3) := by decide +kernel
theorem dX_countAnew_98 : decode cX_countAnew 98 = .ok (.goto (-64), 3) := by decide +kernel
theorem dX_countAnew_101 : decode cX_countAnew 101 = .ok (.return_, 1) := by decide +kernel
end
section
/-- CountedObjects.isRegister(I)Z: a step from head to head -/
def sp_X_isRegister (W E : Nat) (post : Int32 → GS → Prop) (V : Nat → GS → List Int32 → Prop) (h : Nat) (S : GS) (xs : List Int32) : Prop := match h, xs with
  | 0, [v0] => ((v0 < 0 → post 0 S) ∧ (¬ v0 < 0 → ((8 ≤ v0 → post 0 S) ∧ (¬ 8 ≤ v0 → post 1 S))))
  | _, _ => False
def wp_X_isRegister (W E : Nat) (xs : List Int32) (S : GS) (post : Int32 → GS → Prop) : Prop := ∀ V : Nat → GS → List Int32 → Prop, (∀ h S xs, sp_X_isRegister W E post V h S xs → V h S xs) → V 0 S xs
def vh_X_isRegister (o : Nat → Nat) (G : GS → Nat → List (Nat × Value) → List Value → Prop) (h : Nat) (S : GS) (xs : List Int32) : Prop := match h, xs with
  | 0, [v0] => G S 0 [(0, .int v0)] []
  | _, _ => True
set_option maxHeartbeats 4000000 in
set_option maxRecDepth 100000 in
theorem wk_X_isRegister_0 {l : Launch} {dC : Nat → ClassId} {dI : Nat → Nat → Nat} {cI cZ : ClassId} {o : Nat → Nat} {W E : Nat} {p : Program} {e : Env} {s : State} {m : MethodId} {args : Array Value} {below : List Frame} {meth : Method} {c : Code} {A : Nat → Prop} {post : Int32 → GS → Prop} (C : GC p s m args c cX_isRegister 1 RX wsA (dC, dI) gx_cl [(cI, .int), (cZ, .boolean)] A) (hr : meth.sig.returnType = (some .boolean)) (hlocks : meth.locks = false) (S : GS) (v0 : Int32) (hs : sp_X_isRegister W E post (vh_X_isRegister o (GV p l e { frames := 0, cells := 0, slots := 0, locals := 0 } s m args below meth c (MQ below (va_Qi post (GB (xw cI cZ o W E) (dC, dI) gx_cl [(cI, .int), (cZ, .boolean)] A) A) args s 0 0 A) 1 (dC, dI) gx_cl A (xw cI cZ o W E))) 0 S [v0]) : GV p l e { frames := 0, cells := 0, slots := 0, locals := 0 } s m args below meth c (MQ below (va_Qi post (GB (xw cI cZ o W E) (dC, dI) gx_cl [(cI, .int), (cZ, .boolean)] A) A) args s 0 0 A) 1 (dC, dI) gx_cl A (xw cI cZ o W E) S 0 [(0, .int v0)] [] := by
  refine gx_iload_n C dX_isRegister_0 0 rfl rfl ?_
  obtain ⟨ht, hf⟩ := hs
  refine gx_if_lt C dX_isRegister_1 14 rfl (fun hc => ?_) (fun hc => ?_)
  · have hs := ht hc
    refine gx_iconst (v := 0) C dX_isRegister_14 (by decide) ?_
    exact gx_zret C hr hlocks dX_isRegister_15 hs rfl
  · have hs := hf hc
    refine gx_iload_n C dX_isRegister_4 0 rfl rfl ?_
    refine gx_bipush (v := 8) C dX_isRegister_5 (by decide) ?_
    obtain ⟨ht, hf⟩ := hs
    refine gx_icmp_ge C dX_isRegister_7 14 rfl (fun hc => ?_) (fun hc => ?_)
    · have hs := ht hc
      refine gx_iconst (v := 0) C dX_isRegister_14 (by decide) ?_
      exact gx_zret C hr hlocks dX_isRegister_15 hs rfl
    · have hs := hf hc
      refine gx_iconst (v := 1) C dX_isRegister_10 (by decide) ?_
      refine gx_goto C dX_isRegister_11 15 rfl ?_
      exact gx_zret C hr hlocks dX_isRegister_15 hs rfl
set_option maxHeartbeats 4000000 in
set_option maxRecDepth 100000 in
theorem mt_X_isRegister (l : Launch) (dC : Nat → ClassId) (dI : Nat → Nat → Nat) (cI cZ : ClassId) (o : Nat → Nat) (W E : Nat) (v0 : Int32) (S : GS) (post : Int32 → GS → Prop) (h : wp_X_isRegister W E [v0] S post) : MetI l yX_isRegister (Cond.code yX_isRegister cX_isRegister 1 (some .boolean) :: wsA) ({ frames := 0, cells := 0, slots := 0, locals := 0 }) (dC, dI) gx_cl [(cI, .int), (cZ, .boolean)] (xw cI cZ o W E) [.int v0] S post := by
  refine gx_metI (by decide) wsA_good (Nat.le_of_ble_eq_true rfl) ?_
  intro p e s m args below meth c A C hr hlocks
  refine h (vh_X_isRegister o (GV p l e { frames := 0, cells := 0, slots := 0, locals := 0 } s m args below meth c (MQ below (va_Qi post (GB (xw cI cZ o W E) (dC, dI) gx_cl [(cI, .int), (cZ, .boolean)] A) A) args s 0 0 A) 1 (dC, dI) gx_cl A (xw cI cZ o W E))) (fun h S xs hs => ?_)
  unfold sp_X_isRegister at hs
  split at hs
  · exact wk_X_isRegister_0 C hr hlocks _ _ hs
  · exact hs.elim
/-- CountedObjects.isUsed(I)Z: a step from head to head -/
def sp_X_isUsed (W E : Nat) (post : Int32 → GS → Prop) (V : Nat → GS → List Int32 → Prop) (h : Nat) (S : GS) (xs : List Int32) : Prop := match h, xs with
  | 0, [v1] => (vp_in v1 (E + 1) ∧ (((S 1 (v1).toNatClampNeg) = (-1) → post 0 S) ∧ (¬ (S 1 (v1).toNatClampNeg) = (-1) → post 1 S)))
  | _, _ => False
def wp_X_isUsed (W E : Nat) (xs : List Int32) (S : GS) (post : Int32 → GS → Prop) : Prop := ∀ V : Nat → GS → List Int32 → Prop, (∀ h S xs, sp_X_isUsed W E post V h S xs → V h S xs) → V 0 S xs
def vh_X_isUsed (o : Nat → Nat) (G : GS → Nat → List (Nat × Value) → List Value → Prop) (h : Nat) (S : GS) (xs : List Int32) : Prop := match h, xs with
  | 0, [v1] => G S 0 [(0, .ref (o 0)), (1, .int v1)] []
  | _, _ => True
set_option maxHeartbeats 4000000 in
set_option maxRecDepth 100000 in
theorem wk_X_isUsed_0 {l : Launch} {dC : Nat → ClassId} {dI : Nat → Nat → Nat} {cI cZ : ClassId} {o : Nat → Nat} {W E : Nat} {p : Program} {e : Env} {s : State} {m : MethodId} {args : Array Value} {below : List Frame} {meth : Method} {c : Code} {A : Nat → Prop} {post : Int32 → GS → Prop} (C : GC p s m args c cX_isUsed 2 RX wsA (dC, dI) gx_cl [(cI, .int), (cZ, .boolean)] A) (hr : meth.sig.returnType = (some .boolean)) (hlocks : meth.locks = false) (S : GS) (v1 : Int32) (hs : sp_X_isUsed W E post (vh_X_isUsed o (GV p l e { frames := 0, cells := 0, slots := 0, locals := 0 } s m args below meth c (MQ below (va_Qi post (GB (xw cI cZ o W E) (dC, dI) gx_cl [(cI, .int), (cZ, .boolean)] A) A) args s 0 0 A) 2 (dC, dI) gx_cl A (xw cI cZ o W E))) 0 S [v1]) : GV p l e { frames := 0, cells := 0, slots := 0, locals := 0 } s m args below meth c (MQ below (va_Qi post (GB (xw cI cZ o W E) (dC, dI) gx_cl [(cI, .int), (cZ, .boolean)] A) A) args s 0 0 A) 2 (dC, dI) gx_cl A (xw cI cZ o W E) S 0 [(0, .ref (o 0)), (1, .int v1)] [] := by
  refine gx_aload_n C dX_isUsed_0 0 rfl rfl ?_
  refine gx_get C xo_this hi_X 1 (by decide) fl_X_22 rfl dX_isUsed_1 ?_
  refine gx_iload_n C dX_isUsed_4 1 rfl rfl ?_
  obtain ⟨hin, hs⟩ := hs
  refine gx_iald C xa_addresses hin dX_isUsed_5 ?_
  refine gx_iconst (v := (-1)) C dX_isUsed_6 (by decide) ?_
  obtain ⟨ht, hf⟩ := hs
  refine gx_icmp_eq C dX_isUsed_7 14 rfl (fun hc => ?_) (fun hc => ?_)
  · have hs := ht hc
    refine gx_iconst (v := 0) C dX_isUsed_14 (by decide) ?_
    exact gx_zret C hr hlocks dX_isUsed_15 hs rfl
  · have hs := hf hc
    refine gx_iconst (v := 1) C dX_isUsed_10 (by decide) ?_
    refine gx_goto C dX_isUsed_11 15 rfl ?_
    exact gx_zret C hr hlocks dX_isUsed_15 hs rfl
set_option maxHeartbeats 4000000 in
set_option maxRecDepth 100000 in
theorem mt_X_isUsed (l : Launch) (dC : Nat → ClassId) (dI : Nat → Nat → Nat) (cI cZ : ClassId) (o : Nat → Nat) (W E : Nat) (v1 : Int32) (S : GS) (post : Int32 → GS → Prop) (h : wp_X_isUsed W E [v1] S post) : MetI l yX_isUsed (Cond.code yX_isUsed cX_isUsed 2 (some .boolean) :: wsA) ({ frames := 0, cells := 0, slots := 0, locals := 0 }) (dC, dI) gx_cl [(cI, .int), (cZ, .boolean)] (xw cI cZ o W E) [.ref (o 0), .int v1] S post := by
  refine gx_metI (by decide) wsA_good (Nat.le_of_ble_eq_true rfl) ?_
  intro p e s m args below meth c A C hr hlocks
  refine h (vh_X_isUsed o (GV p l e { frames := 0, cells := 0, slots := 0, locals := 0 } s m args below meth c (MQ below (va_Qi post (GB (xw cI cZ o W E) (dC, dI) gx_cl [(cI, .int), (cZ, .boolean)] A) A) args s 0 0 A) 2 (dC, dI) gx_cl A (xw cI cZ o W E))) (fun h S xs hs => ?_)
  unfold sp_X_isUsed at hs
  split at hs
  · exact wk_X_isUsed_0 C hr hlocks _ _ hs
  · exact hs.elim
/-- CountedObjects.isObject(I)Z: a step from head to head -/
def sp_X_isObject (W E : Nat) (post : Int32 → GS → Prop) (V : Nat → GS → List Int32 → Prop) (h : Nat) (S : GS) (xs : List Int32) : Prop := match h, xs with
  | 0, [v1] => ((v1 ≤ 0 → post 0 S) ∧ (¬ v1 ≤ 0 → ((¬ (v1 - v1 / 2 * 2) = 0 → post 0 S) ∧ ((v1 - v1 / 2 * 2) = 0 → (((nI (E + 1)) ≤ (v1 / 2) → post 0 S) ∧ (¬ (nI (E + 1)) ≤ (v1 / 2) → wp_X_isUsed W E [v1 / 2] S (fun r2 S1 => ((r2 = 0 → post 0 S1) ∧ (¬ r2 = 0 → post 1 S1)))))))))
  | _, _ => False
def wp_X_isObject (W E : Nat) (xs : List Int32) (S : GS) (post : Int32 → GS → Prop) : Prop := ∀ V : Nat → GS → List Int32 → Prop, (∀ h S xs, sp_X_isObject W E post V h S xs → V h S xs) → V 0 S xs
def vh_X_isObject (o : Nat → Nat) (G : GS → Nat → List (Nat × Value) → List Value → Prop) (h : Nat) (S : GS) (xs : List Int32) : Prop := match h, xs with
  | 0, [v1] => G S 0 [(0, .ref (o 0)), (1, .int v1)] []
  | _, _ => True
set_option maxHeartbeats 4000000 in
set_option maxRecDepth 100000 in
theorem wk_X_isObject_0 {l : Launch} {dC : Nat → ClassId} {dI : Nat → Nat → Nat} {cI cZ : ClassId} {o : Nat → Nat} {W E : Nat} {p : Program} {e : Env} {s : State} {m : MethodId} {args : Array Value} {below : List Frame} {meth : Method} {c : Code} {A : Nat → Prop} {post : Int32 → GS → Prop} (C : GC p s m args c cX_isObject 2 RX wsA (dC, dI) gx_cl [(cI, .int), (cZ, .boolean)] A) (hr : meth.sig.returnType = (some .boolean)) (hlocks : meth.locks = false) (S : GS) (v1 : Int32) (hs : sp_X_isObject W E post (vh_X_isObject o (GV p l e { frames := 1, cells := 0, slots := 0, locals := 21 } s m args below meth c (MQ below (va_Qi post (GB (xw cI cZ o W E) (dC, dI) gx_cl [(cI, .int), (cZ, .boolean)] A) A) args s 0 0 A) 2 (dC, dI) gx_cl A (xw cI cZ o W E))) 0 S [v1]) : GV p l e { frames := 1, cells := 0, slots := 0, locals := 21 } s m args below meth c (MQ below (va_Qi post (GB (xw cI cZ o W E) (dC, dI) gx_cl [(cI, .int), (cZ, .boolean)] A) A) args s 0 0 A) 2 (dC, dI) gx_cl A (xw cI cZ o W E) S 0 [(0, .ref (o 0)), (1, .int v1)] [] := by
  refine gx_iload_n C dX_isObject_0 1 rfl rfl ?_
  obtain ⟨ht, hf⟩ := hs
  refine gx_if_le C dX_isObject_1 35 rfl (fun hc => ?_) (fun hc => ?_)
  · have hs := ht hc
    refine gx_iconst (v := 0) C dX_isObject_35 (by decide) ?_
    exact gx_zret C hr hlocks dX_isObject_36 hs rfl
  · have hs := hf hc
    refine gx_iload_n C dX_isObject_4 1 rfl rfl ?_
    refine gx_iconst (v := 2) C dX_isObject_5 (by decide) ?_
    refine gx_irem C dX_isObject_6 (by decide) ?_
    obtain ⟨ht, hf⟩ := hs
    refine gx_if_ne C dX_isObject_7 35 rfl (fun hc => ?_) (fun hc => ?_)
    · have hs := ht hc
      refine gx_iconst (v := 0) C dX_isObject_35 (by decide) ?_
      exact gx_zret C hr hlocks dX_isObject_36 hs rfl
    · have hs := hf hc
      refine gx_iload_n C dX_isObject_10 1 rfl rfl ?_
      refine gx_iconst (v := 2) C dX_isObject_11 (by decide) ?_
      refine gx_idiv C dX_isObject_12 (by decide) ?_
      refine gx_aload_n C dX_isObject_13 0 rfl rfl ?_
      refine gx_get C xo_this hi_X 1 (by decide) fl_X_22 rfl dX_isObject_14 ?_
      refine gx_alen C xa_addresses dX_isObject_17 ?_
      obtain ⟨ht, hf⟩ := hs
      refine gx_icmp_ge C dX_isObject_18 35 rfl (fun hc => ?_) (fun hc => ?_)
      · have hs := ht hc
        refine gx_iconst (v := 0) C dX_isObject_35 (by decide) ?_
        exact gx_zret C hr hlocks dX_isObject_36 hs rfl
      · have hs := hf hc
        refine gx_aload_n C dX_isObject_21 0 rfl rfl ?_
        refine gx_iload_n C dX_isObject_22 1 rfl rfl ?_
        refine gx_iconst (v := 2) C dX_isObject_23 (by decide) ?_
        refine gx_idiv C dX_isObject_24 (by decide) ?_
        refine gx_calli (As := [.int (v1 / 2)]) (rest := []) C (mt_X_isUsed l dC dI cI cZ o W E _ _ _ hs) (gx_cwV C 1 ln_X_120 im_X_isUsed se_X_isUsed in_CountedObjects cd_X_isUsed rfl rfl (by decide +kernel) ⟨Nat.le_of_ble_eq_true rfl, Nat.le_of_ble_eq_true rfl⟩) xo_this rfl (Nat.le_of_ble_eq_true rfl) dX_isObject_25 (fun S1 => xw_ad _ S1) rfl (fun r2 S1 hs => ?_)
        obtain ⟨ht, hf⟩ := hs
        refine gx_if_eq C dX_isObject_28 35 rfl (fun hc => ?_) (fun hc => ?_)
        · have hs := ht hc
          refine gx_iconst (v := 0) C dX_isObject_35 (by decide) ?_
          exact gx_zret C hr hlocks dX_isObject_36 hs rfl
        · have hs := hf hc
          refine gx_iconst (v := 1) C dX_isObject_31 (by decide) ?_
          refine gx_goto C dX_isObject_32 36 rfl ?_
          exact gx_zret C hr hlocks dX_isObject_36 hs rfl
set_option maxHeartbeats 4000000 in
set_option maxRecDepth 100000 in
theorem mt_X_isObject (l : Launch) (dC : Nat → ClassId) (dI : Nat → Nat → Nat) (cI cZ : ClassId) (o : Nat → Nat) (W E : Nat) (v1 : Int32) (S : GS) (post : Int32 → GS → Prop) (h : wp_X_isObject W E [v1] S post) : MetI l yX_isObject (Cond.code yX_isObject cX_isObject 2 (some .boolean) :: wsA) ({ frames := 1, cells := 0, slots := 0, locals := 21 }) (dC, dI) gx_cl [(cI, .int), (cZ, .boolean)] (xw cI cZ o W E) [.ref (o 0), .int v1] S post := by
  refine gx_metI (by decide) wsA_good (Nat.le_of_ble_eq_true rfl) ?_
  intro p e s m args below meth c A C hr hlocks
  refine h (vh_X_isObject o (GV p l e { frames := 1, cells := 0, slots := 0, locals := 21 } s m args below meth c (MQ below (va_Qi post (GB (xw cI cZ o W E) (dC, dI) gx_cl [(cI, .int), (cZ, .boolean)] A) A) args s 0 0 A) 2 (dC, dI) gx_cl A (xw cI cZ o W E))) (fun h S xs hs => ?_)
  unfold sp_X_isObject at hs
  split at hs
  · exact wk_X_isObject_0 C hr hlocks _ _ hs
  · exact hs.elim
/-- CountedObjects.isValue(I)Z: a step from head to head -/
def sp_X_isValue (W E : Nat) (post : Int32 → GS → Prop) (V : Nat → GS → List Int32 → Prop) (h : Nat) (S : GS) (xs : List Int32) : Prop := match h, xs with
  | 0, [v1] => ((v1 = 0 → post 1 S) ∧ (¬ v1 = 0 → ((¬ (v1 - v1 / 2 * 2) = 0 → post 1 S) ∧ ((v1 - v1 / 2 * 2) = 0 → wp_X_isObject W E [v1] S (fun r2 S1 => ((r2 = 0 → post 0 S1) ∧ (¬ r2 = 0 → post 1 S1)))))))
  | _, _ => False
def wp_X_isValue (W E : Nat) (xs : List Int32) (S : GS) (post : Int32 → GS → Prop) : Prop := ∀ V : Nat → GS → List Int32 → Prop, (∀ h S xs, sp_X_isValue W E post V h S xs → V h S xs) → V 0 S xs
def vh_X_isValue (o : Nat → Nat) (G : GS → Nat → List (Nat × Value) → List Value → Prop) (h : Nat) (S : GS) (xs : List Int32) : Prop := match h, xs with
  | 0, [v1] => G S 0 [(0, .ref (o 0)), (1, .int v1)] []
  | _, _ => True
set_option maxHeartbeats 4000000 in
set_option maxRecDepth 100000 in
theorem wk_X_isValue_0 {l : Launch} {dC : Nat → ClassId} {dI : Nat → Nat → Nat} {cI cZ : ClassId} {o : Nat → Nat} {W E : Nat} {p : Program} {e : Env} {s : State} {m : MethodId} {args : Array Value} {below : List Frame} {meth : Method} {c : Code} {A : Nat → Prop} {post : Int32 → GS → Prop} (C : GC p s m args c cX_isValue 2 RX wsA (dC, dI) gx_cl [(cI, .int), (cZ, .boolean)] A) (hr : meth.sig.returnType = (some .boolean)) (hlocks : meth.locks = false) (S : GS) (v1 : Int32) (hs : sp_X_isValue W E post (vh_X_isValue o (GV p l e { frames := 2, cells := 0, slots := 0, locals := 42 } s m args below meth c (MQ below (va_Qi post (GB (xw cI cZ o W E) (dC, dI) gx_cl [(cI, .int), (cZ, .boolean)] A) A) args s 0 0 A) 2 (dC, dI) gx_cl A (xw cI cZ o W E))) 0 S [v1]) : GV p l e { frames := 2, cells := 0, slots := 0, locals := 42 } s m args below meth c (MQ below (va_Qi post (GB (xw cI cZ o W E) (dC, dI) gx_cl [(cI, .int), (cZ, .boolean)] A) A) args s 0 0 A) 2 (dC, dI) gx_cl A (xw cI cZ o W E) S 0 [(0, .ref (o 0)), (1, .int v1)] [] := by
  refine gx_iload_n C dX_isValue_0 1 rfl rfl ?_
  obtain ⟨ht, hf⟩ := hs
  refine gx_if_eq C dX_isValue_1 18 rfl (fun hc => ?_) (fun hc => ?_)
  · have hs := ht hc
    refine gx_iconst (v := 1) C dX_isValue_18 (by decide) ?_
    refine gx_goto C dX_isValue_19 23 rfl ?_
    exact gx_zret C hr hlocks dX_isValue_23 hs rfl
  · have hs := hf hc
    refine gx_iload_n C dX_isValue_4 1 rfl rfl ?_
    refine gx_iconst (v := 2) C dX_isValue_5 (by decide) ?_
    refine gx_irem C dX_isValue_6 (by decide) ?_
    obtain ⟨ht, hf⟩ := hs
    refine gx_if_ne C dX_isValue_7 18 rfl (fun hc => ?_) (fun hc => ?_)
    · have hs := ht hc
      refine gx_iconst (v := 1) C dX_isValue_18 (by decide) ?_
      refine gx_goto C dX_isValue_19 23 rfl ?_
      exact gx_zret C hr hlocks dX_isValue_23 hs rfl
    · have hs := hf hc
      refine gx_aload_n C dX_isValue_10 0 rfl rfl ?_
      refine gx_iload_n C dX_isValue_11 1 rfl rfl ?_
      refine gx_calli (As := [.int v1]) (rest := []) C (mt_X_isObject l dC dI cI cZ o W E _ _ _ hs) (gx_cwV C 1 ln_X_87 im_X_isObject se_X_isObject in_CountedObjects cd_X_isObject rfl rfl (by decide +kernel) ⟨Nat.le_of_ble_eq_true rfl, Nat.le_of_ble_eq_true rfl⟩) xo_this rfl (Nat.le_of_ble_eq_true rfl) dX_isValue_12 (fun S1 => xw_ad _ S1) rfl (fun r2 S1 hs => ?_)
      obtain ⟨ht, hf⟩ := hs
      refine gx_if_eq C dX_isValue_15 22 rfl (fun hc => ?_) (fun hc => ?_)
      · have hs := ht hc
        refine gx_iconst (v := 0) C dX_isValue_22 (by decide) ?_
        exact gx_zret C hr hlocks dX_isValue_23 hs rfl
      · have hs := hf hc
        refine gx_iconst (v := 1) C dX_isValue_18 (by decide) ?_
        refine gx_goto C dX_isValue_19 23 rfl ?_
        exact gx_zret C hr hlocks dX_isValue_23 hs rfl
set_option maxHeartbeats 4000000 in
set_option maxRecDepth 100000 in
theorem mt_X_isValue (l : Launch) (dC : Nat → ClassId) (dI : Nat → Nat → Nat) (cI cZ : ClassId) (o : Nat → Nat) (W E : Nat) (v1 : Int32) (S : GS) (post : Int32 → GS → Prop) (h : wp_X_isValue W E [v1] S post) : MetI l yX_isValue (Cond.code yX_isValue cX_isValue 2 (some .boolean) :: wsA) ({ frames := 2, cells := 0, slots := 0, locals := 42 }) (dC, dI) gx_cl [(cI, .int), (cZ, .boolean)] (xw cI cZ o W E) [.ref (o 0), .int v1] S post := by
  refine gx_metI (by decide) wsA_good (Nat.le_of_ble_eq_true rfl) ?_
  intro p e s m args below meth c A C hr hlocks
  refine h (vh_X_isValue o (GV p l e { frames := 2, cells := 0, slots := 0, locals := 42 } s m args below meth c (MQ below (va_Qi post (GB (xw cI cZ o W E) (dC, dI) gx_cl [(cI, .int), (cZ, .boolean)] A) A) args s 0 0 A) 2 (dC, dI) gx_cl A (xw cI cZ o W E))) (fun h S xs hs => ?_)
  unfold sp_X_isValue at hs
  split at hs
  · exact wk_X_isValue_0 C hr hlocks _ _ hs
  · exact hs.elim
/-- CountedObjects.hasField(II)Z: a step from head to head -/
def sp_X_hasField (W E : Nat) (post : Int32 → GS → Prop) (V : Nat → GS → List Int32 → Prop) (h : Nat) (S : GS) (xs : List Int32) : Prop := match h, xs with
  | 0, [v1, v2] => ((v2 < 0 → post 0 S) ∧ (¬ v2 < 0 → (vp_in (v1 / 2) (E + 1) ∧ (vp_in (S 1 (v1 / 2).toNatClampNeg) W ∧ (((S 0 (S 1 (v1 / 2).toNatClampNeg).toNatClampNeg) ≤ v2 → post 0 S) ∧ (¬ (S 0 (S 1 (v1 / 2).toNatClampNeg).toNatClampNeg) ≤ v2 → post 1 S))))))
  | _, _ => False
def wp_X_hasField (W E : Nat) (xs : List Int32) (S : GS) (post : Int32 → GS → Prop) : Prop := ∀ V : Nat → GS → List Int32 → Prop, (∀ h S xs, sp_X_hasField W E post V h S xs → V h S xs) → V 0 S xs
def vh_X_hasField (o : Nat → Nat) (G : GS → Nat → List (Nat × Value) → List Value → Prop) (h : Nat) (S : GS) (xs : List Int32) : Prop := match h, xs with
  | 0, [v1, v2] => G S 0 [(0, .ref (o 0)), (1, .int v1), (2, .int v2)] []
  | _, _ => True
set_option maxHeartbeats 4000000 in
set_option maxRecDepth 100000 in
theorem wk_X_hasField_0 {l : Launch} {dC : Nat → ClassId} {dI : Nat → Nat → Nat} {cI cZ : ClassId} {o : Nat → Nat} {W E : Nat} {p : Program} {e : Env} {s : State} {m : MethodId} {args : Array Value} {below : List Frame} {meth : Method} {c : Code} {A : Nat → Prop} {post : Int32 → GS → Prop} (C : GC p s m args c cX_hasField 3 RX wsA (dC, dI) gx_cl [(cI, .int), (cZ, .boolean)] A) (hr : meth.sig.returnType = (some .boolean)) (hlocks : meth.locks = false) (S : GS) (v1 : Int32) (v2 : Int32) (hs : sp_X_hasField W E post (vh_X_hasField o (GV p l e { frames := 0, cells := 0, slots := 0, locals := 0 } s m args below meth c (MQ below (va_Qi post (GB (xw cI cZ o W E) (dC, dI) gx_cl [(cI, .int), (cZ, .boolean)] A) A) args s 0 0 A) 3 (dC, dI) gx_cl A (xw cI cZ o W E))) 0 S [v1, v2]) : GV p l e { frames := 0, cells := 0, slots := 0, locals := 0 } s m args below meth c (MQ below (va_Qi post (GB (xw cI cZ o W E) (dC, dI) gx_cl [(cI, .int), (cZ, .boolean)] A) A) args s 0 0 A) 3 (dC, dI) gx_cl A (xw cI cZ o W E) S 0 [(0, .ref (o 0)), (1, .int v1), (2, .int v2)] [] := by
  refine gx_iload_n C dX_hasField_0 2 rfl rfl ?_
  obtain ⟨ht, hf⟩ := hs
  refine gx_if_lt C dX_hasField_1 25 rfl (fun hc => ?_) (fun hc => ?_)
  · have hs := ht hc
    refine gx_iconst (v := 0) C dX_hasField_25 (by decide) ?_
    exact gx_zret C hr hlocks dX_hasField_26 hs rfl
  · have hs := hf hc
    refine gx_iload_n C dX_hasField_4 2 rfl rfl ?_
    refine gx_aload_n C dX_hasField_5 0 rfl rfl ?_
    refine gx_get C xo_this hi_X 0 (by decide) fl_X_18 rfl dX_hasField_6 ?_
    refine gx_aload_n C dX_hasField_9 0 rfl rfl ?_
    refine gx_get C xo_this hi_X 1 (by decide) fl_X_22 rfl dX_hasField_10 ?_
    refine gx_iload_n C dX_hasField_13 1 rfl rfl ?_
    refine gx_iconst (v := 2) C dX_hasField_14 (by decide) ?_
    refine gx_idiv C dX_hasField_15 (by decide) ?_
    obtain ⟨hin, hs⟩ := hs
    refine gx_iald C xa_addresses hin dX_hasField_16 ?_
    obtain ⟨hin, hs⟩ := hs
    refine gx_iald C xa_words hin dX_hasField_17 ?_
    obtain ⟨ht, hf⟩ := hs
    refine gx_icmp_ge C dX_hasField_18 25 rfl (fun hc => ?_) (fun hc => ?_)
    · have hs := ht hc
      refine gx_iconst (v := 0) C dX_hasField_25 (by decide) ?_
      exact gx_zret C hr hlocks dX_hasField_26 hs rfl
    · have hs := hf hc
      refine gx_iconst (v := 1) C dX_hasField_21 (by decide) ?_
      refine gx_goto C dX_hasField_22 26 rfl ?_
      exact gx_zret C hr hlocks dX_hasField_26 hs rfl
set_option maxHeartbeats 4000000 in
set_option maxRecDepth 100000 in
theorem mt_X_hasField (l : Launch) (dC : Nat → ClassId) (dI : Nat → Nat → Nat) (cI cZ : ClassId) (o : Nat → Nat) (W E : Nat) (v1 : Int32) (v2 : Int32) (S : GS) (post : Int32 → GS → Prop) (h : wp_X_hasField W E [v1, v2] S post) : MetI l yX_hasField (Cond.code yX_hasField cX_hasField 3 (some .boolean) :: wsA) ({ frames := 0, cells := 0, slots := 0, locals := 0 }) (dC, dI) gx_cl [(cI, .int), (cZ, .boolean)] (xw cI cZ o W E) [.ref (o 0), .int v1, .int v2] S post := by
  refine gx_metI (by decide) wsA_good (Nat.le_of_ble_eq_true rfl) ?_
  intro p e s m args below meth c A C hr hlocks
  refine h (vh_X_hasField o (GV p l e { frames := 0, cells := 0, slots := 0, locals := 0 } s m args below meth c (MQ below (va_Qi post (GB (xw cI cZ o W E) (dC, dI) gx_cl [(cI, .int), (cZ, .boolean)] A) A) args s 0 0 A) 3 (dC, dI) gx_cl A (xw cI cZ o W E))) (fun h S xs hs => ?_)
  unfold sp_X_hasField at hs
  split at hs
  · exact wk_X_hasField_0 C hr hlocks _ _ _ hs
  · exact hs.elim
/-- CountedObjects.fieldWord(II)I: a step from head to head -/
def sp_X_fieldWord (W E : Nat) (post : Int32 → GS → Prop) (V : Nat → GS → List Int32 → Prop) (h : Nat) (S : GS) (xs : List Int32) : Prop := match h, xs with
  | 0, [v1, v2] => (vp_in (v1 / 2) (E + 1) ∧ post (((S 1 (v1 / 2).toNatClampNeg) + 2) + v2) S)
  | _, _ => False
def wp_X_fieldWord (W E : Nat) (xs : List Int32) (S : GS) (post : Int32 → GS → Prop) : Prop := ∀ V : Nat → GS → List Int32 → Prop, (∀ h S xs, sp_X_fieldWord W E post V h S xs → V h S xs) → V 0 S xs
def vh_X_fieldWord (o : Nat → Nat) (G : GS → Nat → List (Nat × Value) → List Value → Prop) (h : Nat) (S : GS) (xs : List Int32) : Prop := match h, xs with
  | 0, [v1, v2] => G S 0 [(0, .ref (o 0)), (1, .int v1), (2, .int v2)] []
  | _, _ => True
set_option maxHeartbeats 4000000 in
set_option maxRecDepth 100000 in
theorem wk_X_fieldWord_0 {l : Launch} {dC : Nat → ClassId} {dI : Nat → Nat → Nat} {cI cZ : ClassId} {o : Nat → Nat} {W E : Nat} {p : Program} {e : Env} {s : State} {m : MethodId} {args : Array Value} {below : List Frame} {meth : Method} {c : Code} {A : Nat → Prop} {post : Int32 → GS → Prop} (C : GC p s m args c cX_fieldWord 3 RX wsA (dC, dI) gx_cl [(cI, .int), (cZ, .boolean)] A) (hr : meth.sig.returnType = (some .int)) (hlocks : meth.locks = false) (S : GS) (v1 : Int32) (v2 : Int32) (hs : sp_X_fieldWord W E post (vh_X_fieldWord o (GV p l e { frames := 0, cells := 0, slots := 0, locals := 0 } s m args below meth c (MQ below (va_Qi post (GB (xw cI cZ o W E) (dC, dI) gx_cl [(cI, .int), (cZ, .boolean)] A) A) args s 0 0 A) 3 (dC, dI) gx_cl A (xw cI cZ o W E))) 0 S [v1, v2]) : GV p l e { frames := 0, cells := 0, slots := 0, locals := 0 } s m args below meth c (MQ below (va_Qi post (GB (xw cI cZ o W E) (dC, dI) gx_cl [(cI, .int), (cZ, .boolean)] A) A) args s 0 0 A) 3 (dC, dI) gx_cl A (xw cI cZ o W E) S 0 [(0, .ref (o 0)), (1, .int v1), (2, .int v2)] [] := by
  refine gx_aload_n C dX_fieldWord_0 0 rfl rfl ?_
  refine gx_get C xo_this hi_X 1 (by decide) fl_X_22 rfl dX_fieldWord_1 ?_
  refine gx_iload_n C dX_fieldWord_4 1 rfl rfl ?_
  refine gx_iconst (v := 2) C dX_fieldWord_5 (by decide) ?_
  refine gx_idiv C dX_fieldWord_6 (by decide) ?_
  obtain ⟨hin, hs⟩ := hs
  refine gx_iald C xa_addresses hin dX_fieldWord_7 ?_
  refine gx_iconst (v := 2) C dX_fieldWord_8 (by decide) ?_
  refine gx_iadd C dX_fieldWord_9 ?_
  refine gx_iload_n C dX_fieldWord_10 2 rfl rfl ?_
  refine gx_iadd C dX_fieldWord_11 ?_
  exact gx_iret C hr hlocks dX_fieldWord_12 hs
set_option maxHeartbeats 4000000 in
set_option maxRecDepth 100000 in
theorem mt_X_fieldWord (l : Launch) (dC : Nat → ClassId) (dI : Nat → Nat → Nat) (cI cZ : ClassId) (o : Nat → Nat) (W E : Nat) (v1 : Int32) (v2 : Int32) (S : GS) (post : Int32 → GS → Prop) (h : wp_X_fieldWord W E [v1, v2] S post) : MetI l yX_fieldWord (Cond.code yX_fieldWord cX_fieldWord 3 (some .int) :: wsA) ({ frames := 0, cells := 0, slots := 0, locals := 0 }) (dC, dI) gx_cl [(cI, .int), (cZ, .boolean)] (xw cI cZ o W E) [.ref (o 0), .int v1, .int v2] S post := by
  refine gx_metI (by decide) wsA_good (Nat.le_of_ble_eq_true rfl) ?_
  intro p e s m args below meth c A C hr hlocks
  refine h (vh_X_fieldWord o (GV p l e { frames := 0, cells := 0, slots := 0, locals := 0 } s m args below meth c (MQ below (va_Qi post (GB (xw cI cZ o W E) (dC, dI) gx_cl [(cI, .int), (cZ, .boolean)] A) A) args s 0 0 A) 3 (dC, dI) gx_cl A (xw cI cZ o W E))) (fun h S xs hs => ?_)
  unfold sp_X_fieldWord at hs
  split at hs
  · exact wk_X_fieldWord_0 C hr hlocks _ _ _ hs
  · exact hs.elim
/-- CountedObjects.wordsOf(I)I: a step from head to head -/
def sp_X_wordsOf (W E : Nat) (post : Int32 → GS → Prop) (V : Nat → GS → List Int32 → Prop) (h : Nat) (S : GS) (xs : List Int32) : Prop := match h, xs with
  | 0, [v1] => (vp_in v1 (E + 1) ∧ (vp_in (S 1 (v1).toNatClampNeg) W ∧ post ((S 0 (S 1 (v1).toNatClampNeg).toNatClampNeg) + 2) S))
  | _, _ => False
def wp_X_wordsOf (W E : Nat) (xs : List Int32) (S : GS) (post : Int32 → GS → Prop) : Prop := ∀ V : Nat → GS → List Int32 → Prop, (∀ h S xs, sp_X_wordsOf W E post V h S xs → V h S xs) → V 0 S xs
def vh_X_wordsOf (o : Nat → Nat) (G : GS → Nat → List (Nat × Value) → List Value → Prop) (h : Nat) (S : GS) (xs : List Int32) : Prop := match h, xs with
  | 0, [v1] => G S 0 [(0, .ref (o 0)), (1, .int v1)] []
  | _, _ => True
set_option maxHeartbeats 4000000 in
set_option maxRecDepth 100000 in
theorem wk_X_wordsOf_0 {l : Launch} {dC : Nat → ClassId} {dI : Nat → Nat → Nat} {cI cZ : ClassId} {o : Nat → Nat} {W E : Nat} {p : Program} {e : Env} {s : State} {m : MethodId} {args : Array Value} {below : List Frame} {meth : Method} {c : Code} {A : Nat → Prop} {post : Int32 → GS → Prop} (C : GC p s m args c cX_wordsOf 2 RX wsA (dC, dI) gx_cl [(cI, .int), (cZ, .boolean)] A) (hr : meth.sig.returnType = (some .int)) (hlocks : meth.locks = false) (S : GS) (v1 : Int32) (hs : sp_X_wordsOf W E post (vh_X_wordsOf o (GV p l e { frames := 0, cells := 0, slots := 0, locals := 0 } s m args below meth c (MQ below (va_Qi post (GB (xw cI cZ o W E) (dC, dI) gx_cl [(cI, .int), (cZ, .boolean)] A) A) args s 0 0 A) 2 (dC, dI) gx_cl A (xw cI cZ o W E))) 0 S [v1]) : GV p l e { frames := 0, cells := 0, slots := 0, locals := 0 } s m args below meth c (MQ below (va_Qi post (GB (xw cI cZ o W E) (dC, dI) gx_cl [(cI, .int), (cZ, .boolean)] A) A) args s 0 0 A) 2 (dC, dI) gx_cl A (xw cI cZ o W E) S 0 [(0, .ref (o 0)), (1, .int v1)] [] := by
  refine gx_aload_n C dX_wordsOf_0 0 rfl rfl ?_
  refine gx_get C xo_this hi_X 0 (by decide) fl_X_18 rfl dX_wordsOf_1 ?_
  refine gx_aload_n C dX_wordsOf_4 0 rfl rfl ?_
  refine gx_get C xo_this hi_X 1 (by decide) fl_X_22 rfl dX_wordsOf_5 ?_
  refine gx_iload_n C dX_wordsOf_8 1 rfl rfl ?_
  obtain ⟨hin, hs⟩ := hs
  refine gx_iald C xa_addresses hin dX_wordsOf_9 ?_
  obtain ⟨hin, hs⟩ := hs
  refine gx_iald C xa_words hin dX_wordsOf_10 ?_
  refine gx_iconst (v := 2) C dX_wordsOf_11 (by decide) ?_
  refine gx_iadd C dX_wordsOf_12 ?_
  exact gx_iret C hr hlocks dX_wordsOf_13 hs
set_option maxHeartbeats 4000000 in
set_option maxRecDepth 100000 in
theorem mt_X_wordsOf (l : Launch) (dC : Nat → ClassId) (dI : Nat → Nat → Nat) (cI cZ : ClassId) (o : Nat → Nat) (W E : Nat) (v1 : Int32) (S : GS) (post : Int32 → GS → Prop) (h : wp_X_wordsOf W E [v1] S post) : MetI l yX_wordsOf (Cond.code yX_wordsOf cX_wordsOf 2 (some .int) :: wsA) ({ frames := 0, cells := 0, slots := 0, locals := 0 }) (dC, dI) gx_cl [(cI, .int), (cZ, .boolean)] (xw cI cZ o W E) [.ref (o 0), .int v1] S post := by
  refine gx_metI (by decide) wsA_good (Nat.le_of_ble_eq_true rfl) ?_
  intro p e s m args below meth c A C hr hlocks
  refine h (vh_X_wordsOf o (GV p l e { frames := 0, cells := 0, slots := 0, locals := 0 } s m args below meth c (MQ below (va_Qi post (GB (xw cI cZ o W E) (dC, dI) gx_cl [(cI, .int), (cZ, .boolean)] A) A) args s 0 0 A) 2 (dC, dI) gx_cl A (xw cI cZ o W E))) (fun h S xs hs => ?_)
  unfold sp_X_wordsOf at hs
  split at hs
  · exact wk_X_wordsOf_0 C hr hlocks _ _ hs
  · exact hs.elim
/-- CountedObjects.leastFreeEntry()I: a step from head to head -/
def sp_X_leastFreeEntry (W E : Nat) (post : Int32 → GS → Prop) (V : Nat → GS → List Int32 → Prop) (h : Nat) (S : GS) (xs : List Int32) : Prop := match h, xs with
  | 0, [] => ∀ y1 : Int32, y1 = 1 → V 2 S [y1]
  | 2, [v1] => (((nI (E + 1)) ≤ v1 → post 0 S) ∧ (¬ (nI (E + 1)) ≤ v1 → wp_X_isUsed W E [v1] S (fun r2 S1 => ((¬ r2 = 0 → (∀ y3 : Int32, y3 = v1 + 1 → V 2 S1 [y3])) ∧ (r2 = 0 → post v1 S1)))))
  | _, _ => False
def wp_X_leastFreeEntry (W E : Nat) (xs : List Int32) (S : GS) (post : Int32 → GS → Prop) : Prop := ∀ V : Nat → GS → List Int32 → Prop, (∀ h S xs, sp_X_leastFreeEntry W E post V h S xs → V h S xs) → V 0 S xs
def vh_X_leastFreeEntry (o : Nat → Nat) (G : GS → Nat → List (Nat × Value) → List Value → Prop) (h : Nat) (S : GS) (xs : List Int32) : Prop := match h, xs with
  | 0, [] => G S 0 [(0, .ref (o 0))] []
  | 2, [v1] => G S 2 [(0, .ref (o 0)), (1, .int v1)] []
  | _, _ => True
set_option maxHeartbeats 4000000 in
set_option maxRecDepth 100000 in
theorem wk_X_leastFreeEntry_0 {l : Launch} {dC : Nat → ClassId} {dI : Nat → Nat → Nat} {cI cZ : ClassId} {o : Nat → Nat} {W E : Nat} {p : Program} {e : Env} {s : State} {m : MethodId} {args : Array Value} {below : List Frame} {meth : Method} {c : Code} {A : Nat → Prop} {post : Int32 → GS → Prop} (C : GC p s m args c cX_leastFreeEntry 2 RX wsA (dC, dI) gx_cl [(cI, .int), (cZ, .boolean)] A) (hr : meth.sig.returnType = (some .int)) (hlocks : meth.locks = false) (S : GS) (hs : sp_X_leastFreeEntry W E post (vh_X_leastFreeEntry o (GV p l e { frames := 1, cells := 0, slots := 0, locals := 21 } s m args below meth c (MQ below (va_Qi post (GB (xw cI cZ o W E) (dC, dI) gx_cl [(cI, .int), (cZ, .boolean)] A) A) args s 0 0 A) 2 (dC, dI) gx_cl A (xw cI cZ o W E))) 0 S []) : GV p l e { frames := 1, cells := 0, slots := 0, locals := 21 } s m args below meth c (MQ below (va_Qi post (GB (xw cI cZ o W E) (dC, dI) gx_cl [(cI, .int), (cZ, .boolean)] A) A) args s 0 0 A) 2 (dC, dI) gx_cl A (xw cI cZ o W E) S 0 [(0, .ref (o 0))] [] := by
  refine gx_iconst (v := 1) C dX_leastFreeEntry_0 (by decide) ?_
  refine gx_top (fun y1 ey1 => ?_)
  replace hs := hs y1 ey1
  refine gx_istore_n (L' := [(1, .int y1), (0, .ref (o 0))]) C dX_leastFreeEntry_1 rfl (by decide) rfl ?_
  exact gx_sub [1, 0] rfl hs
set_option maxHeartbeats 4000000 in
set_option maxRecDepth 100000 in
theorem wk_X_leastFreeEntry_2 {l : Launch} {dC : Nat → ClassId} {dI : Nat → Nat → Nat} {cI cZ : ClassId} {o : Nat → Nat} {W E : Nat} {p : Program} {e : Env} {s : State} {m : MethodId} {args : Array Value} {below : List Frame} {meth : Method} {c : Code} {A : Nat → Prop} {post : Int32 → GS → Prop} (C : GC p s m args c cX_leastFreeEntry 2 RX wsA (dC, dI) gx_cl [(cI, .int), (cZ, .boolean)] A) (hr : meth.sig.returnType = (some .int)) (hlocks : meth.locks = false) (S : GS) (v1 : Int32) (hs : sp_X_leastFreeEntry W E post (vh_X_leastFreeEntry o (GV p l e { frames := 1, cells := 0, slots := 0, locals := 21 } s m args below meth c (MQ below (va_Qi post (GB (xw cI cZ o W E) (dC, dI) gx_cl [(cI, .int), (cZ, .boolean)] A) A) args s 0 0 A) 2 (dC, dI) gx_cl A (xw cI cZ o W E))) 2 S [v1]) : GV p l e { frames := 1, cells := 0, slots := 0, locals := 21 } s m args below meth c (MQ below (va_Qi post (GB (xw cI cZ o W E) (dC, dI) gx_cl [(cI, .int), (cZ, .boolean)] A) A) args s 0 0 A) 2 (dC, dI) gx_cl A (xw cI cZ o W E) S 2 [(0, .ref (o 0)), (1, .int v1)] [] := by
  refine gx_iload_n C dX_leastFreeEntry_2 1 rfl rfl ?_
  refine gx_aload_n C dX_leastFreeEntry_3 0 rfl rfl ?_
  refine gx_get C xo_this hi_X 1 (by decide) fl_X_22 rfl dX_leastFreeEntry_4 ?_
  refine gx_alen C xa_addresses dX_leastFreeEntry_7 ?_
  obtain ⟨ht, hf⟩ := hs
  refine gx_icmp_ge C dX_leastFreeEntry_8 27 rfl (fun hc => ?_) (fun hc => ?_)
  · have hs := ht hc
    refine gx_iconst (v := 0) C dX_leastFreeEntry_27 (by decide) ?_
    exact gx_iret C hr hlocks dX_leastFreeEntry_28 hs
  · have hs := hf hc
    refine gx_aload_n C dX_leastFreeEntry_11 0 rfl rfl ?_
    refine gx_iload_n C dX_leastFreeEntry_12 1 rfl rfl ?_
    refine gx_calli (As := [.int v1]) (rest := []) C (mt_X_isUsed l dC dI cI cZ o W E _ _ _ hs) (gx_cwV C 1 ln_X_120 im_X_isUsed se_X_isUsed in_CountedObjects cd_X_isUsed rfl rfl (by decide +kernel) ⟨Nat.le_of_ble_eq_true rfl, Nat.le_of_ble_eq_true rfl⟩) xo_this rfl (Nat.le_of_ble_eq_true rfl) dX_leastFreeEntry_13 (fun S1 => xw_ad _ S1) rfl (fun r2 S1 hs => ?_)
    obtain ⟨ht, hf⟩ := hs
    refine gx_if_ne C dX_leastFreeEntry_16 21 rfl (fun hc => ?_) (fun hc => ?_)
    · have hs := ht hc
      refine gx_iinc (v0 := 1) (f := fun v => [(1, .int v), (0, .ref (o 0))]) C dX_leastFreeEntry_21 1 rfl (by decide) (by decide) (fun _ => rfl) (fun y3 ey3 => ?_)
      replace hs := hs y3 ey3
      refine gx_goto C dX_leastFreeEntry_24 2 rfl ?_
      exact gx_sub [1, 0] rfl hs
    · have hs := hf hc
      refine gx_iload_n C dX_leastFreeEntry_19 1 rfl rfl ?_
      exact gx_iret C hr hlocks dX_leastFreeEntry_20 hs
set_option maxHeartbeats 4000000 in
set_option maxRecDepth 100000 in
theorem mt_X_leastFreeEntry (l : Launch) (dC : Nat → ClassId) (dI : Nat → Nat → Nat) (cI cZ : ClassId) (o : Nat → Nat) (W E : Nat) (S : GS) (post : Int32 → GS → Prop) (h : wp_X_leastFreeEntry W E [] S post) : MetI l yX_leastFreeEntry (Cond.code yX_leastFreeEntry cX_leastFreeEntry 2 (some .int) :: wsA) ({ frames := 1, cells := 0, slots := 0, locals := 21 }) (dC, dI) gx_cl [(cI, .int), (cZ, .boolean)] (xw cI cZ o W E) [.ref (o 0)] S post := by
  refine gx_metI (by decide) wsA_good (Nat.le_of_ble_eq_true rfl) ?_
  intro p e s m args below meth c A C hr hlocks
  refine h (vh_X_leastFreeEntry o (GV p l e { frames := 1, cells := 0, slots := 0, locals := 21 } s m args below meth c (MQ below (va_Qi post (GB (xw cI cZ o W E) (dC, dI) gx_cl [(cI, .int), (cZ, .boolean)] A) A) args s 0 0 A) 2 (dC, dI) gx_cl A (xw cI cZ o W E))) (fun h S xs hs => ?_)
  unfold sp_X_leastFreeEntry at hs
  split at hs
  · exact wk_X_leastFreeEntry_0 C hr hlocks _ hs
  · exact wk_X_leastFreeEntry_2 C hr hlocks _ _ hs
  · exact hs.elim
/-- CountedObjects.addReference(I)V: a step from head to head -/
def sp_X_addReference (W E : Nat) (post : GS → Prop) (V : Nat → GS → List Int32 → Prop) (h : Nat) (S : GS) (xs : List Int32) : Prop := match h, xs with
  | 0, [v1] => wp_X_isObject W E [v1] S (fun r2 S1 => ((r2 = 0 → post S1) ∧ (¬ r2 = 0 → (vp_in (v1 / 2) (E + 1) ∧ ((7 ≤ (S1 2 (v1 / 2).toNatClampNeg) → post S1) ∧ (¬ 7 ≤ (S1 2 (v1 / 2).toNatClampNeg) → (vp_in (v1 / 2) (E + 1) ∧ (vp_in (v1 / 2) (E + 1) ∧ ∀ S3 : GS, S3 = gx_set 2 (v1 / 2).toNatClampNeg ((S1 2 (v1 / 2).toNatClampNeg) + 1) S1 → post S3))))))))
  | _, _ => False
def wp_X_addReference (W E : Nat) (xs : List Int32) (S : GS) (post : GS → Prop) : Prop := ∀ V : Nat → GS → List Int32 → Prop, (∀ h S xs, sp_X_addReference W E post V h S xs → V h S xs) → V 0 S xs
def vh_X_addReference (o : Nat → Nat) (G : GS → Nat → List (Nat × Value) → List Value → Prop) (h : Nat) (S : GS) (xs : List Int32) : Prop := match h, xs with
  | 0, [v1] => G S 0 [(0, .ref (o 0)), (1, .int v1)] []
  | _, _ => True
set_option maxHeartbeats 4000000 in
set_option maxRecDepth 100000 in
theorem wk_X_addReference_0 {l : Launch} {dC : Nat → ClassId} {dI : Nat → Nat → Nat} {cI cZ : ClassId} {o : Nat → Nat} {W E : Nat} {p : Program} {e : Env} {s : State} {m : MethodId} {args : Array Value} {below : List Frame} {meth : Method} {c : Code} {A : Nat → Prop} {post : GS → Prop} (C : GC p s m args c cX_addReference 2 RX wsA (dC, dI) gx_cl [(cI, .int), (cZ, .boolean)] A) (hr : meth.sig.returnType = none) (hlocks : meth.locks = false) (S : GS) (v1 : Int32) (hs : sp_X_addReference W E post (vh_X_addReference o (GV p l e { frames := 2, cells := 0, slots := 0, locals := 42 } s m args below meth c (MQ below (va_Qv post (GB (xw cI cZ o W E) (dC, dI) gx_cl [(cI, .int), (cZ, .boolean)] A) A) args s 0 0 A) 2 (dC, dI) gx_cl A (xw cI cZ o W E))) 0 S [v1]) : GV p l e { frames := 2, cells := 0, slots := 0, locals := 42 } s m args below meth c (MQ below (va_Qv post (GB (xw cI cZ o W E) (dC, dI) gx_cl [(cI, .int), (cZ, .boolean)] A) A) args s 0 0 A) 2 (dC, dI) gx_cl A (xw cI cZ o W E) S 0 [(0, .ref (o 0)), (1, .int v1)] [] := by
  refine gx_aload_n C dX_addReference_0 0 rfl rfl ?_
  refine gx_iload_n C dX_addReference_1 1 rfl rfl ?_
  refine gx_calli (As := [.int v1]) (rest := []) C (mt_X_isObject l dC dI cI cZ o W E _ _ _ hs) (gx_cwV C 1 ln_X_87 im_X_isObject se_X_isObject in_CountedObjects cd_X_isObject rfl rfl (by decide +kernel) ⟨Nat.le_of_ble_eq_true rfl, Nat.le_of_ble_eq_true rfl⟩) xo_this rfl (Nat.le_of_ble_eq_true rfl) dX_addReference_2 (fun S1 => xw_ad _ S1) rfl (fun r2 S1 hs => ?_)
  obtain ⟨ht, hf⟩ := hs
  refine gx_if_eq C dX_addReference_5 33 rfl (fun hc => ?_) (fun hc => ?_)
  · have hs := ht hc
    exact gx_vret C hr hlocks dX_addReference_33 hs
  · have hs := hf hc
    refine gx_aload_n C dX_addReference_8 0 rfl rfl ?_
    refine gx_get C xo_this hi_X 2 (by decide) fl_X_25 rfl dX_addReference_9 ?_
    refine gx_iload_n C dX_addReference_12 1 rfl rfl ?_
    refine gx_iconst (v := 2) C dX_addReference_13 (by decide) ?_
    refine gx_idiv C dX_addReference_14 (by decide) ?_
    obtain ⟨hin, hs⟩ := hs
    refine gx_iald C xa_counts hin dX_addReference_15 ?_
    refine gx_bipush (v := 7) C dX_addReference_16 (by decide) ?_
    obtain ⟨ht, hf⟩ := hs
    refine gx_icmp_ge C dX_addReference_18 33 rfl (fun hc => ?_) (fun hc => ?_)
    · have hs := ht hc
      exact gx_vret C hr hlocks dX_addReference_33 hs
    · have hs := hf hc
      refine gx_aload_n C dX_addReference_21 0 rfl rfl ?_
      refine gx_get C xo_this hi_X 2 (by decide) fl_X_25 rfl dX_addReference_22 ?_
      refine gx_iload_n C dX_addReference_25 1 rfl rfl ?_
      refine gx_iconst (v := 2) C dX_addReference_26 (by decide) ?_
      refine gx_idiv C dX_addReference_27 (by decide) ?_
      refine gx_dup2 C dX_addReference_28 rfl rfl ?_
      obtain ⟨hin, hs⟩ := hs
      refine gx_iald C xa_counts hin dX_addReference_29 ?_
      refine gx_iconst (v := 1) C dX_addReference_30 (by decide) ?_
      refine gx_iadd C dX_addReference_31 ?_
      obtain ⟨hin, hs⟩ := hs
      refine gx_iast C xa_counts hin dX_addReference_32 (fun S3 eS3 => ?_)
      replace hs := hs S3 eS3
      exact gx_vret C hr hlocks dX_addReference_33 hs
set_option maxHeartbeats 4000000 in
set_option maxRecDepth 100000 in
theorem mt_X_addReference (l : Launch) (dC : Nat → ClassId) (dI : Nat → Nat → Nat) (cI cZ : ClassId) (o : Nat → Nat) (W E : Nat) (v1 : Int32) (S : GS) (post : GS → Prop) (h : wp_X_addReference W E [v1] S post) : MetV l yX_addReference (Cond.code yX_addReference cX_addReference 2 none :: wsA) ({ frames := 2, cells := 0, slots := 0, locals := 42 }) (dC, dI) gx_cl [(cI, .int), (cZ, .boolean)] (xw cI cZ o W E) [.ref (o 0), .int v1] S post := by
  refine gx_metV (by decide) wsA_good (Nat.le_of_ble_eq_true rfl) ?_
  intro p e s m args below meth c A C hr hlocks
  refine h (vh_X_addReference o (GV p l e { frames := 2, cells := 0, slots := 0, locals := 42 } s m args below meth c (MQ below (va_Qv post (GB (xw cI cZ o W E) (dC, dI) gx_cl [(cI, .int), (cZ, .boolean)] A) A) args s 0 0 A) 2 (dC, dI) gx_cl A (xw cI cZ o W E))) (fun h S xs hs => ?_)
  unfold sp_X_addReference at hs
  split at hs
  · exact wk_X_addReference_0 C hr hlocks _ _ hs
  · exact hs.elim
/-- CountedObjects.makeObject(IIII)V: a step from head to head -/
def sp_X_makeObject (W E : Nat) (post : GS → Prop) (V : Nat → GS → List Int32 → Prop) (h : Nat) (S : GS) (xs : List Int32) : Prop := match h, xs with
  | 0, [v1, v2, v3, v4] => wp_X_addReference W E [v3] S (fun S1 => (vp_in v1 (E + 1) ∧ ∀ S3 : GS, S3 = gx_set 1 (v1).toNatClampNeg v2 S1 → (vp_in v1 (E + 1) ∧ ∀ S4 : GS, S4 = gx_set 2 (v1).toNatClampNeg 0 S3 → (vp_in v2 W ∧ ∀ S5 : GS, S5 = gx_set 0 (v2).toNatClampNeg v4 S4 → (vp_in (v2 + 1) W ∧ ∀ S6 : GS, S6 = gx_set 0 (v2 + 1).toNatClampNeg v3 S5 → ∀ y7 : Int32, y7 = 0 → V 39 S6 [v1, v2, v3, v4, y7])))))
  | 39, [v1, v2, v3, v4, v5] => ((v4 ≤ v5 → post S) ∧ (¬ v4 ≤ v5 → (vp_in ((v2 + 2) + v5) W ∧ ∀ S1 : GS, S1 = gx_set 0 ((v2 + 2) + v5).toNatClampNeg 0 S → (∀ y2 : Int32, y2 = v5 + 1 → V 39 S1 [v1, v2, v3, v4, y2]))))
  | _, _ => False
def wp_X_makeObject (W E : Nat) (xs : List Int32) (S : GS) (post : GS → Prop) : Prop := ∀ V : Nat → GS → List Int32 → Prop, (∀ h S xs, sp_X_makeObject W E post V h S xs → V h S xs) → V 0 S xs
def vh_X_makeObject (o : Nat → Nat) (G : GS → Nat → List (Nat × Value) → List Value → Prop) (h : Nat) (S : GS) (xs : List Int32) : Prop := match h, xs with
  | 0, [v1, v2, v3, v4] => G S 0 [(0, .ref (o 0)), (1, .int v1), (2, .int v2), (3, .int v3), (4, .int v4)] []
  | 39, [v1, v2, v3, v4, v5] => G S 39 [(0, .ref (o 0)), (1, .int v1), (2, .int v2), (3, .int v3), (4, .int v4), (5, .int v5)] []
  | _, _ => True
set_option maxHeartbeats 4000000 in
set_option maxRecDepth 100000 in
theorem wk_X_makeObject_0 {l : Launch} {dC : Nat → ClassId} {dI : Nat → Nat → Nat} {cI cZ : ClassId} {o : Nat → Nat} {W E : Nat} {p : Program} {e : Env} {s : State} {m : MethodId} {args : Array Value} {below : List Frame} {meth : Method} {c : Code} {A : Nat → Prop} {post : GS → Prop} (C : GC p s m args c cX_makeObject 6 RX wsA (dC, dI) gx_cl [(cI, .int), (cZ, .boolean)] A) (hr : meth.sig.returnType = none) (hlocks : meth.locks = false) (S : GS) (v1 : Int32) (v2 : Int32) (v3 : Int32) (v4 : Int32) (hs : sp_X_makeObject W E post (vh_X_makeObject o (GV p l e { frames := 3, cells := 0, slots := 0, locals := 63 } s m args below meth c (MQ below (va_Qv post (GB (xw cI cZ o W E) (dC, dI) gx_cl [(cI, .int), (cZ, .boolean)] A) A) args s 0 0 A) 6 (dC, dI) gx_cl A (xw cI cZ o W E))) 0 S [v1, v2, v3, v4]) : GV p l e { frames := 3, cells := 0, slots := 0, locals := 63 } s m args below meth c (MQ below (va_Qv post (GB (xw cI cZ o W E) (dC, dI) gx_cl [(cI, .int), (cZ, .boolean)] A) A) args s 0 0 A) 6 (dC, dI) gx_cl A (xw cI cZ o W E) S 0 [(0, .ref (o 0)), (1, .int v1), (2, .int v2), (3, .int v3), (4, .int v4)] [] := by
  refine gx_aload_n C dX_makeObject_0 0 rfl rfl ?_
  refine gx_iload_n C dX_makeObject_1 3 rfl rfl ?_
  refine gx_callv (As := [.int v3]) (rest := []) C (mt_X_addReference l dC dI cI cZ o W E _ _ _ hs) (gx_cwV C 1 ln_X_97 im_X_addReference se_X_addReference in_CountedObjects cd_X_addReference rfl rfl (by decide +kernel) ⟨Nat.le_of_ble_eq_true rfl, Nat.le_of_ble_eq_true rfl⟩) xo_this rfl (Nat.le_of_ble_eq_true rfl) dX_makeObject_2 (fun S1 => xw_ad _ S1) rfl (fun S1 hs => ?_)
  refine gx_aload_n C dX_makeObject_5 0 rfl rfl ?_
  refine gx_get C xo_this hi_X 1 (by decide) fl_X_22 rfl dX_makeObject_6 ?_
  refine gx_iload_n C dX_makeObject_9 1 rfl rfl ?_
  refine gx_iload_n C dX_makeObject_10 2 rfl rfl ?_
  obtain ⟨hin, hs⟩ := hs
  refine gx_iast C xa_addresses hin dX_makeObject_11 (fun S3 eS3 => ?_)
  replace hs := hs S3 eS3
  refine gx_aload_n C dX_makeObject_12 0 rfl rfl ?_
  refine gx_get C xo_this hi_X 2 (by decide) fl_X_25 rfl dX_makeObject_13 ?_
  refine gx_iload_n C dX_makeObject_16 1 rfl rfl ?_
  refine gx_iconst (v := 0) C dX_makeObject_17 (by decide) ?_
  obtain ⟨hin, hs⟩ := hs
  refine gx_iast C xa_counts hin dX_makeObject_18 (fun S4 eS4 => ?_)
  replace hs := hs S4 eS4
  refine gx_aload_n C dX_makeObject_19 0 rfl rfl ?_
  refine gx_get C xo_this hi_X 0 (by decide) fl_X_18 rfl dX_makeObject_20 ?_
  refine gx_iload_n C dX_makeObject_23 2 rfl rfl ?_
  refine gx_iload C dX_makeObject_24 4 rfl ?_
  obtain ⟨hin, hs⟩ := hs
  refine gx_iast C xa_words hin dX_makeObject_26 (fun S5 eS5 => ?_)
  replace hs := hs S5 eS5
  refine gx_aload_n C dX_makeObject_27 0 rfl rfl ?_
  refine gx_get C xo_this hi_X 0 (by decide) fl_X_18 rfl dX_makeObject_28 ?_
  refine gx_iload_n C dX_makeObject_31 2 rfl rfl ?_
  refine gx_iconst (v := 1) C dX_makeObject_32 (by decide) ?_
  refine gx_iadd C dX_makeObject_33 ?_
  refine gx_iload_n C dX_makeObject_34 3 rfl rfl ?_
  obtain ⟨hin, hs⟩ := hs
  refine gx_iast C xa_words hin dX_makeObject_35 (fun S6 eS6 => ?_)
  replace hs := hs S6 eS6
  refine gx_iconst (v := 0) C dX_makeObject_36 (by decide) ?_
  refine gx_top (fun y7 ey7 => ?_)
  replace hs := hs y7 ey7
  refine gx_istore (L' := [(5, .int y7), (0, .ref (o 0)), (1, .int v1), (2, .int v2), (3, .int v3), (4, .int v4)]) C dX_makeObject_37 (by decide) rfl ?_
  exact gx_sub [1, 2, 3, 4, 5, 0] rfl hs
set_option maxHeartbeats 4000000 in
set_option maxRecDepth 100000 in
theorem wk_X_makeObject_39 {l : Launch} {dC : Nat → ClassId} {dI : Nat → Nat → Nat} {cI cZ : ClassId} {o : Nat → Nat} {W E : Nat} {p : Program} {e : Env} {s : State} {m : MethodId} {args : Array Value} {below : List Frame} {meth : Method} {c : Code} {A : Nat → Prop} {post : GS → Prop} (C : GC p s m args c cX_makeObject 6 RX wsA (dC, dI) gx_cl [(cI, .int), (cZ, .boolean)] A) (hr : meth.sig.returnType = none) (hlocks : meth.locks = false) (S : GS) (v1 : Int32) (v2 : Int32) (v3 : Int32) (v4 : Int32) (v5 : Int32) (hs : sp_X_makeObject W E post (vh_X_makeObject o (GV p l e { frames := 3, cells := 0, slots := 0, locals := 63 } s m args below meth c (MQ below (va_Qv post (GB (xw cI cZ o W E) (dC, dI) gx_cl [(cI, .int), (cZ, .boolean)] A) A) args s 0 0 A) 6 (dC, dI) gx_cl A (xw cI cZ o W E))) 39 S [v1, v2, v3, v4, v5]) : GV p l e { frames := 3, cells := 0, slots := 0, locals := 63 } s m args below meth c (MQ below (va_Qv post (GB (xw cI cZ o W E) (dC, dI) gx_cl [(cI, .int), (cZ, .boolean)] A) A) args s 0 0 A) 6 (dC, dI) gx_cl A (xw cI cZ o W E) S 39 [(0, .ref (o 0)), (1, .int v1), (2, .int v2), (3, .int v3), (4, .int v4), (5, .int v5)] [] := by
  refine gx_iload C dX_makeObject_39 5 rfl ?_
  refine gx_iload C dX_makeObject_41 4 rfl ?_
  obtain ⟨ht, hf⟩ := hs
  refine gx_icmp_ge C dX_makeObject_43 64 rfl (fun hc => ?_) (fun hc => ?_)
  · have hs := ht hc
    exact gx_vret C hr hlocks dX_makeObject_64 hs
  · have hs := hf hc
    refine gx_aload_n C dX_makeObject_46 0 rfl rfl ?_
    refine gx_get C xo_this hi_X 0 (by decide) fl_X_18 rfl dX_makeObject_47 ?_
    refine gx_iload_n C dX_makeObject_50 2 rfl rfl ?_
    refine gx_iconst (v := 2) C dX_makeObject_51 (by decide) ?_
    refine gx_iadd C dX_makeObject_52 ?_
    refine gx_iload C dX_makeObject_53 5 rfl ?_
    refine gx_iadd C dX_makeObject_55 ?_
    refine gx_iconst (v := 0) C dX_makeObject_56 (by decide) ?_
    obtain ⟨hin, hs⟩ := hs
    refine gx_iast C xa_words hin dX_makeObject_57 (fun S1 eS1 => ?_)
    replace hs := hs S1 eS1
    refine gx_iinc (v0 := 1) (f := fun v => [(5, .int v), (0, .ref (o 0)), (1, .int v1), (2, .int v2), (3, .int v3), (4, .int v4)]) C dX_makeObject_58 5 rfl (by decide) (by decide) (fun _ => rfl) (fun y2 ey2 => ?_)
    replace hs := hs y2 ey2
    refine gx_goto C dX_makeObject_61 39 rfl ?_
    exact gx_sub [1, 2, 3, 4, 5, 0] rfl hs
set_option maxHeartbeats 4000000 in
set_option maxRecDepth 100000 in
theorem mt_X_makeObject (l : Launch) (dC : Nat → ClassId) (dI : Nat → Nat → Nat) (cI cZ : ClassId) (o : Nat → Nat) (W E : Nat) (v1 : Int32) (v2 : Int32) (v3 : Int32) (v4 : Int32) (S : GS) (post : GS → Prop) (h : wp_X_makeObject W E [v1, v2, v3, v4] S post) : MetV l yX_makeObject (Cond.code yX_makeObject cX_makeObject 6 none :: wsA) ({ frames := 3, cells := 0, slots := 0, locals := 63 }) (dC, dI) gx_cl [(cI, .int), (cZ, .boolean)] (xw cI cZ o W E) [.ref (o 0), .int v1, .int v2, .int v3, .int v4] S post := by
  refine gx_metV (by decide) wsA_good (Nat.le_of_ble_eq_true rfl) ?_
  intro p e s m args below meth c A C hr hlocks
  refine h (vh_X_makeObject o (GV p l e { frames := 3, cells := 0, slots := 0, locals := 63 } s m args below meth c (MQ below (va_Qv post (GB (xw cI cZ o W E) (dC, dI) gx_cl [(cI, .int), (cZ, .boolean)] A) A) args s 0 0 A) 6 (dC, dI) gx_cl A (xw cI cZ o W E))) (fun h S xs hs => ?_)
  unfold sp_X_makeObject at hs
  split at hs
  · exact wk_X_makeObject_0 C hr hlocks _ _ _ _ _ hs
  · exact wk_X_makeObject_39 C hr hlocks _ _ _ _ _ _ hs
  · exact hs.elim
/-- CountedObjects.freeEntry(I)V: a step from head to head -/
def sp_X_freeEntry (W E : Nat) (post : GS → Prop) (V : Nat → GS → List Int32 → Prop) (h : Nat) (S : GS) (xs : List Int32) : Prop := match h, xs with
  | 0, [v1] => (vp_in v1 (E + 1) ∧ wp_X_wordsOf W E [v1] S (fun r2 S1 => wp_F_add W E [S 1 (v1).toNatClampNeg, r2] S1 (fun S3 => (vp_in v1 (E + 1) ∧ ∀ S5 : GS, S5 = gx_set 1 (v1).toNatClampNeg (-1) S3 → post S5))))
  | _, _ => False
def wp_X_freeEntry (W E : Nat) (xs : List Int32) (S : GS) (post : GS → Prop) : Prop := ∀ V : Nat → GS → List Int32 → Prop, (∀ h S xs, sp_X_freeEntry W E post V h S xs → V h S xs) → V 0 S xs
def vh_X_freeEntry (o : Nat → Nat) (G : GS → Nat → List (Nat × Value) → List Value → Prop) (h : Nat) (S : GS) (xs : List Int32) : Prop := match h, xs with
  | 0, [v1] => G S 0 [(0, .ref (o 0)), (1, .int v1)] []
  | _, _ => True
set_option maxHeartbeats 4000000 in
set_option maxRecDepth 100000 in
theorem wk_X_freeEntry_0 {l : Launch} {dC : Nat → ClassId} {dI : Nat → Nat → Nat} {cI cZ : ClassId} {o : Nat → Nat} {W E : Nat} {p : Program} {e : Env} {s : State} {m : MethodId} {args : Array Value} {below : List Frame} {meth : Method} {c : Code} {A : Nat → Prop} {post : GS → Prop} (C : GC p s m args c cX_freeEntry 2 RX wsA (dC, dI) gx_cl [(cI, .int), (cZ, .boolean)] A) (hr : meth.sig.returnType = none) (hlocks : meth.locks = false) (S : GS) (v1 : Int32) (hs : sp_X_freeEntry W E post (vh_X_freeEntry o (GV p l e { frames := 1, cells := 0, slots := 0, locals := 22 } s m args below meth c (MQ below (va_Qv post (GB (xw cI cZ o W E) (dC, dI) gx_cl [(cI, .int), (cZ, .boolean)] A) A) args s 0 0 A) 2 (dC, dI) gx_cl A (xw cI cZ o W E))) 0 S [v1]) : GV p l e { frames := 1, cells := 0, slots := 0, locals := 22 } s m args below meth c (MQ below (va_Qv post (GB (xw cI cZ o W E) (dC, dI) gx_cl [(cI, .int), (cZ, .boolean)] A) A) args s 0 0 A) 2 (dC, dI) gx_cl A (xw cI cZ o W E) S 0 [(0, .ref (o 0)), (1, .int v1)] [] := by
  refine gx_aload_n C dX_freeEntry_0 0 rfl rfl ?_
  refine gx_get C xo_this hi_X 4 (by decide) fl_X_36 rfl dX_freeEntry_1 ?_
  refine gx_aload_n C dX_freeEntry_4 0 rfl rfl ?_
  refine gx_get C xo_this hi_X 1 (by decide) fl_X_22 rfl dX_freeEntry_5 ?_
  refine gx_iload_n C dX_freeEntry_8 1 rfl rfl ?_
  obtain ⟨hin, hs⟩ := hs
  refine gx_iald C xa_addresses hin dX_freeEntry_9 ?_
  refine gx_aload_n C dX_freeEntry_10 0 rfl rfl ?_
  refine gx_iload_n C dX_freeEntry_11 1 rfl rfl ?_
  refine gx_calli (As := [.int v1]) (rest := [.int (S 1 (v1).toNatClampNeg), .ref (o 5)]) C (mt_X_wordsOf l dC dI cI cZ o W E _ _ _ hs) (gx_cwV C 1 ln_X_126 im_X_wordsOf se_X_wordsOf in_CountedObjects cd_X_wordsOf rfl rfl (by decide +kernel) ⟨Nat.le_of_ble_eq_true rfl, Nat.le_of_ble_eq_true rfl⟩) xo_this rfl (Nat.le_of_ble_eq_true rfl) dX_freeEntry_12 (fun S1 => xw_ad _ S1) rfl (fun r2 S1 hs => ?_)
  refine gx_callv (As := [.int (S 1 (v1).toNatClampNeg), .int r2]) (rest := []) C (mt_F_add l dC dI cI cZ o W E _ _ _ _ hs) (gx_cwV C 2 ln_X_132 im_F_add se_F_add in_CountedObjects_FreeChunks cd_F_add rfl rfl (by decide +kernel) ⟨Nat.le_of_ble_eq_true rfl, Nat.le_of_ble_eq_true rfl⟩) xo_fc rfl (Nat.le_of_ble_eq_true rfl) dX_freeEntry_15 (fun S1 => xw_ad _ S1) rfl (fun S3 hs => ?_)
  refine gx_aload_n C dX_freeEntry_18 0 rfl rfl ?_
  refine gx_get C xo_this hi_X 1 (by decide) fl_X_22 rfl dX_freeEntry_19 ?_
  refine gx_iload_n C dX_freeEntry_22 1 rfl rfl ?_
  refine gx_iconst (v := (-1)) C dX_freeEntry_23 (by decide) ?_
  obtain ⟨hin, hs⟩ := hs
  refine gx_iast C xa_addresses hin dX_freeEntry_24 (fun S5 eS5 => ?_)
  replace hs := hs S5 eS5
  exact gx_vret C hr hlocks dX_freeEntry_25 hs
set_option maxHeartbeats 4000000 in
set_option maxRecDepth 100000 in
theorem mt_X_freeEntry (l : Launch) (dC : Nat → ClassId) (dI : Nat → Nat → Nat) (cI cZ : ClassId) (o : Nat → Nat) (W E : Nat) (v1 : Int32) (S : GS) (post : GS → Prop) (h : wp_X_freeEntry W E [v1] S post) : MetV l yX_freeEntry (Cond.code yX_freeEntry cX_freeEntry 2 none :: wsA) ({ frames := 1, cells := 0, slots := 0, locals := 22 }) (dC, dI) gx_cl [(cI, .int), (cZ, .boolean)] (xw cI cZ o W E) [.ref (o 0), .int v1] S post := by
  refine gx_metV (by decide) wsA_good (Nat.le_of_ble_eq_true rfl) ?_
  intro p e s m args below meth c A C hr hlocks
  refine h (vh_X_freeEntry o (GV p l e { frames := 1, cells := 0, slots := 0, locals := 22 } s m args below meth c (MQ below (va_Qv post (GB (xw cI cZ o W E) (dC, dI) gx_cl [(cI, .int), (cZ, .boolean)] A) A) args s 0 0 A) 2 (dC, dI) gx_cl A (xw cI cZ o W E))) (fun h S xs hs => ?_)
  unfold sp_X_freeEntry at hs
  split at hs
  · exact wk_X_freeEntry_0 C hr hlocks _ _ hs
  · exact hs.elim
/-- CountedObjects.lowestFrom(I)I: a step from head to head -/
def sp_X_lowestFrom (W E : Nat) (post : Int32 → GS → Prop) (V : Nat → GS → List Int32 → Prop) (h : Nat) (S : GS) (xs : List Int32) : Prop := match h, xs with
  | 0, [v1] => ∀ y1 : Int32, y1 = 0 → ∀ y2 : Int32, y2 = 1 → V 4 S [v1, y1, y2]
  | 4, [v1, v2, v3] => (((nI (E + 1)) ≤ v3 → post v2 S) ∧ (¬ (nI (E + 1)) ≤ v3 → wp_X_isUsed W E [v3] S (fun r2 S1 => ((r2 = 0 → ∀ y3 : Int32, y3 = 0 → ((y3 = 0 → (∀ y4 : Int32, y4 = v3 + 1 → V 4 S1 [v1, v2, y4])) ∧ (¬ y3 = 0 → ((v2 = 0 → (∀ y5 : Int32, y5 = v3 + 1 → V 4 S1 [v1, v3, y5])) ∧ (¬ v2 = 0 → (vp_in v3 (E + 1) ∧ (vp_in v2 (E + 1) ∧ (((S1 1 (v2).toNatClampNeg) ≤ (S1 1 (v3).toNatClampNeg) → (∀ y6 : Int32, y6 = v3 + 1 → V 4 S1 [v1, v2, y6])) ∧ (¬ (S1 1 (v2).toNatClampNeg) ≤ (S1 1 (v3).toNatClampNeg) → (∀ y7 : Int32, y7 = v3 + 1 → V 4 S1 [v1, v3, y7])))))))))) ∧ (¬ r2 = 0 → (vp_in v3 (E + 1) ∧ (((S1 1 (v3).toNatClampNeg) < v1 → ∀ y8 : Int32, y8 = 0 → ((y8 = 0 → (∀ y9 : Int32, y9 = v3 + 1 → V 4 S1 [v1, v2, y9])) ∧ (¬ y8 = 0 → ((v2 = 0 → (∀ y10 : Int32, y10 = v3 + 1 → V 4 S1 [v1, v3, y10])) ∧ (¬ v2 = 0 → (vp_in v3 (E + 1) ∧ (vp_in v2 (E + 1) ∧ (((S1 1 (v2).toNatClampNeg) ≤ (S1 1 (v3).toNatClampNeg) → (∀ y11 : Int32, y11 = v3 + 1 → V 4 S1 [v1, v2, y11])) ∧ (¬ (S1 1 (v2).toNatClampNeg) ≤ (S1 1 (v3).toNatClampNeg) → (∀ y12 : Int32, y12 = v3 + 1 → V 4 S1 [v1, v3, y12])))))))))) ∧ (¬ (S1 1 (v3).toNatClampNeg) < v1 → ∀ y13 : Int32, y13 = 1 → ((y13 = 0 → (∀ y14 : Int32, y14 = v3 + 1 → V 4 S1 [v1, v2, y14])) ∧ (¬ y13 = 0 → ((v2 = 0 → (∀ y15 : Int32, y15 = v3 + 1 → V 4 S1 [v1, v3, y15])) ∧ (¬ v2 = 0 → (vp_in v3 (E + 1) ∧ (vp_in v2 (E + 1) ∧ (((S1 1 (v2).toNatClampNeg) ≤ (S1 1 (v3).toNatClampNeg) → (∀ y16 : Int32, y16 = v3 + 1 → V 4 S1 [v1, v2, y16])) ∧ (¬ (S1 1 (v2).toNatClampNeg) ≤ (S1 1 (v3).toNatClampNeg) → (∀ y17 : Int32, y17 = v3 + 1 → V 4 S1 [v1, v3, y17])))))))))))))))))
  | _, _ => False
def wp_X_lowestFrom (W E : Nat) (xs : List Int32) (S : GS) (post : Int32 → GS → Prop) : Prop := ∀ V : Nat → GS → List Int32 → Prop, (∀ h S xs, sp_X_lowestFrom W E post V h S xs → V h S xs) → V 0 S xs
def vh_X_lowestFrom (o : Nat → Nat) (G : GS → Nat → List (Nat × Value) → List Value → Prop) (h : Nat) (S : GS) (xs : List Int32) : Prop := match h, xs with
  | 0, [v1] => G S 0 [(0, .ref (o 0)), (1, .int v1)] []
  | 4, [v1, v2, v3] => G S 4 [(0, .ref (o 0)), (1, .int v1), (2, .int v2), (3, .int v3)] []
  | _, _ => True
set_option maxHeartbeats 4000000 in
set_option maxRecDepth 100000 in
theorem wk_X_lowestFrom_0 {l : Launch} {dC : Nat → ClassId} {dI : Nat → Nat → Nat} {cI cZ : ClassId} {o : Nat → Nat} {W E : Nat} {p : Program} {e : Env} {s : State} {m : MethodId} {args : Array Value} {below : List Frame} {meth : Method} {c : Code} {A : Nat → Prop} {post : Int32 → GS → Prop} (C : GC p s m args c cX_lowestFrom 5 RX wsA (dC, dI) gx_cl [(cI, .int), (cZ, .boolean)] A) (hr : meth.sig.returnType = (some .int)) (hlocks : meth.locks = false) (S : GS) (v1 : Int32) (hs : sp_X_lowestFrom W E post (vh_X_lowestFrom o (GV p l e { frames := 1, cells := 0, slots := 0, locals := 21 } s m args below meth c (MQ below (va_Qi post (GB (xw cI cZ o W E) (dC, dI) gx_cl [(cI, .int), (cZ, .boolean)] A) A) args s 0 0 A) 5 (dC, dI) gx_cl A (xw cI cZ o W E))) 0 S [v1]) : GV p l e { frames := 1, cells := 0, slots := 0, locals := 21 } s m args below meth c (MQ below (va_Qi post (GB (xw cI cZ o W E) (dC, dI) gx_cl [(cI, .int), (cZ, .boolean)] A) A) args s 0 0 A) 5 (dC, dI) gx_cl A (xw cI cZ o W E) S 0 [(0, .ref (o 0)), (1, .int v1)] [] := by
  refine gx_iconst (v := 0) C dX_lowestFrom_0 (by decide) ?_
  refine gx_top (fun y1 ey1 => ?_)
  replace hs := hs y1 ey1
  refine gx_istore_n (L' := [(2, .int y1), (0, .ref (o 0)), (1, .int v1)]) C dX_lowestFrom_1 rfl (by decide) rfl ?_
  refine gx_iconst (v := 1) C dX_lowestFrom_2 (by decide) ?_
  refine gx_top (fun y2 ey2 => ?_)
  replace hs := hs y2 ey2
  refine gx_istore_n (L' := [(3, .int y2), (2, .int y1), (0, .ref (o 0)), (1, .int v1)]) C dX_lowestFrom_3 rfl (by decide) rfl ?_
  exact gx_sub [2, 3, 1, 0] rfl hs
set_option maxHeartbeats 4000000 in
set_option maxRecDepth 100000 in
theorem wk_X_lowestFrom_4 {l : Launch} {dC : Nat → ClassId} {dI : Nat → Nat → Nat} {cI cZ : ClassId} {o : Nat → Nat} {W E : Nat} {p : Program} {e : Env} {s : State} {m : MethodId} {args : Array Value} {below : List Frame} {meth : Method} {c : Code} {A : Nat → Prop} {post : Int32 → GS → Prop} (C : GC p s m args c cX_lowestFrom 5 RX wsA (dC, dI) gx_cl [(cI, .int), (cZ, .boolean)] A) (hr : meth.sig.returnType = (some .int)) (hlocks : meth.locks = false) (S : GS) (v1 : Int32) (v2 : Int32) (v3 : Int32) (hs : sp_X_lowestFrom W E post (vh_X_lowestFrom o (GV p l e { frames := 1, cells := 0, slots := 0, locals := 21 } s m args below meth c (MQ below (va_Qi post (GB (xw cI cZ o W E) (dC, dI) gx_cl [(cI, .int), (cZ, .boolean)] A) A) args s 0 0 A) 5 (dC, dI) gx_cl A (xw cI cZ o W E))) 4 S [v1, v2, v3]) : GV p l e { frames := 1, cells := 0, slots := 0, locals := 21 } s m args below meth c (MQ below (va_Qi post (GB (xw cI cZ o W E) (dC, dI) gx_cl [(cI, .int), (cZ, .boolean)] A) A) args s 0 0 A) 5 (dC, dI) gx_cl A (xw cI cZ o W E) S 4 [(0, .ref (o 0)), (1, .int v1), (2, .int v2), (3, .int v3)] [] := by
  refine gx_iload_n C dX_lowestFrom_4 3 rfl rfl ?_
  refine gx_aload_n C dX_lowestFrom_5 0 rfl rfl ?_
  refine gx_get C xo_this hi_X 1 (by decide) fl_X_22 rfl dX_lowestFrom_6 ?_
  refine gx_alen C xa_addresses dX_lowestFrom_9 ?_
  obtain ⟨ht, hf⟩ := hs
  refine gx_icmp_ge C dX_lowestFrom_10 70 rfl (fun hc => ?_) (fun hc => ?_)
  · have hs := ht hc
    refine gx_iload_n C dX_lowestFrom_70 2 rfl rfl ?_
    exact gx_iret C hr hlocks dX_lowestFrom_71 hs
  · have hs := hf hc
    refine gx_aload_n C dX_lowestFrom_13 0 rfl rfl ?_
    refine gx_iload_n C dX_lowestFrom_14 3 rfl rfl ?_
    refine gx_calli (As := [.int v3]) (rest := []) C (mt_X_isUsed l dC dI cI cZ o W E _ _ _ hs) (gx_cwV C 1 ln_X_120 im_X_isUsed se_X_isUsed in_CountedObjects cd_X_isUsed rfl rfl (by decide +kernel) ⟨Nat.le_of_ble_eq_true rfl, Nat.le_of_ble_eq_true rfl⟩) xo_this rfl (Nat.le_of_ble_eq_true rfl) dX_lowestFrom_15 (fun S1 => xw_ad _ S1) rfl (fun r2 S1 hs => ?_)
    obtain ⟨ht, hf⟩ := hs
    refine gx_if_eq C dX_lowestFrom_18 35 rfl (fun hc => ?_) (fun hc => ?_)
    · have hs := ht hc
      refine gx_iconst (v := 0) C dX_lowestFrom_35 (by decide) ?_
      refine gx_top (fun y3 ey3 => ?_)
      replace hs := hs y3 ey3
      refine gx_istore (L' := [(4, .int y3), (0, .ref (o 0)), (1, .int v1), (2, .int v2), (3, .int v3)]) C dX_lowestFrom_36 (by decide) rfl ?_
      refine gx_iload C dX_lowestFrom_38 0 rfl ?_
      obtain ⟨ht, hf⟩ := hs
      refine gx_if_eq C dX_lowestFrom_40 64 rfl (fun hc => ?_) (fun hc => ?_)
      · have hs := ht hc
        refine gx_iinc (v0 := 1) (f := fun v => [(3, .int v), (4, .int y3), (0, .ref (o 0)), (1, .int v1), (2, .int v2)]) C dX_lowestFrom_64 4 rfl (by decide) (by decide) (fun _ => rfl) (fun y4 ey4 => ?_)
        replace hs := hs y4 ey4
        refine gx_goto C dX_lowestFrom_67 4 rfl ?_
        exact gx_sub [2, 3, 4, 0] rfl hs
      · have hs := hf hc
        refine gx_iload_n C dX_lowestFrom_43 3 rfl rfl ?_
        obtain ⟨ht, hf⟩ := hs
        refine gx_if_eq C dX_lowestFrom_44 62 rfl (fun hc => ?_) (fun hc => ?_)
        · have hs := ht hc
          refine gx_iload_n C dX_lowestFrom_62 4 rfl rfl ?_
          refine gx_istore_n (L' := [(2, .int v3), (4, .int y3), (0, .ref (o 0)), (1, .int v1), (3, .int v3)]) C dX_lowestFrom_63 rfl (by decide) rfl ?_
          refine gx_iinc (v0 := 1) (f := fun v => [(3, .int v), (2, .int v3), (4, .int y3), (0, .ref (o 0)), (1, .int v1)]) C dX_lowestFrom_64 4 rfl (by decide) (by decide) (fun _ => rfl) (fun y5 ey5 => ?_)
          replace hs := hs y5 ey5
          refine gx_goto C dX_lowestFrom_67 4 rfl ?_
          exact gx_sub [3, 4, 1, 0] rfl hs
        · have hs := hf hc
          refine gx_aload_n C dX_lowestFrom_47 1 rfl rfl ?_
          refine gx_get C xo_this hi_X 1 (by decide) fl_X_22 rfl dX_lowestFrom_48 ?_
          refine gx_iload_n C dX_lowestFrom_51 4 rfl rfl ?_
          obtain ⟨hin, hs⟩ := hs
          refine gx_iald C xa_addresses hin dX_lowestFrom_52 ?_
          refine gx_aload_n C dX_lowestFrom_53 1 rfl rfl ?_
          refine gx_get C xo_this hi_X 1 (by decide) fl_X_22 rfl dX_lowestFrom_54 ?_
          refine gx_iload_n C dX_lowestFrom_57 3 rfl rfl ?_
          obtain ⟨hin, hs⟩ := hs
          refine gx_iald C xa_addresses hin dX_lowestFrom_58 ?_
          obtain ⟨ht, hf⟩ := hs
          refine gx_icmp_ge C dX_lowestFrom_59 64 rfl (fun hc => ?_) (fun hc => ?_)
          · have hs := ht hc
            refine gx_iinc (v0 := 1) (f := fun v => [(3, .int v), (4, .int y3), (0, .ref (o 0)), (1, .int v1), (2, .int v2)]) C dX_lowestFrom_64 4 rfl (by decide) (by decide) (fun _ => rfl) (fun y6 ey6 => ?_)
            replace hs := hs y6 ey6
            refine gx_goto C dX_lowestFrom_67 4 rfl ?_
            exact gx_sub [2, 3, 4, 0] rfl hs
          · have hs := hf hc
            refine gx_iload_n C dX_lowestFrom_62 4 rfl rfl ?_
            refine gx_istore_n (L' := [(2, .int v3), (4, .int y3), (0, .ref (o 0)), (1, .int v1), (3, .int v3)]) C dX_lowestFrom_63 rfl (by decide) rfl ?_
            refine gx_iinc (v0 := 1) (f := fun v => [(3, .int v), (2, .int v3), (4, .int y3), (0, .ref (o 0)), (1, .int v1)]) C dX_lowestFrom_64 4 rfl (by decide) (by decide) (fun _ => rfl) (fun y7 ey7 => ?_)
            replace hs := hs y7 ey7
            refine gx_goto C dX_lowestFrom_67 4 rfl ?_
            exact gx_sub [3, 4, 1, 0] rfl hs
    · have hs := hf hc
      refine gx_aload_n C dX_lowestFrom_21 0 rfl rfl ?_
      refine gx_get C xo_this hi_X 1 (by decide) fl_X_22 rfl dX_lowestFrom_22 ?_
      refine gx_iload_n C dX_lowestFrom_25 3 rfl rfl ?_
      obtain ⟨hin, hs⟩ := hs
      refine gx_iald C xa_addresses hin dX_lowestFrom_26 ?_
      refine gx_iload_n C dX_lowestFrom_27 1 rfl rfl ?_
      obtain ⟨ht, hf⟩ := hs
      refine gx_icmp_lt C dX_lowestFrom_28 35 rfl (fun hc => ?_) (fun hc => ?_)
      · have hs := ht hc
        refine gx_iconst (v := 0) C dX_lowestFrom_35 (by decide) ?_
        refine gx_top (fun y8 ey8 => ?_)
        replace hs := hs y8 ey8
        refine gx_istore (L' := [(4, .int y8), (0, .ref (o 0)), (1, .int v1), (2, .int v2), (3, .int v3)]) C dX_lowestFrom_36 (by decide) rfl ?_
        refine gx_iload C dX_lowestFrom_38 0 rfl ?_
        obtain ⟨ht, hf⟩ := hs
        refine gx_if_eq C dX_lowestFrom_40 64 rfl (fun hc => ?_) (fun hc => ?_)
        · have hs := ht hc
          refine gx_iinc (v0 := 1) (f := fun v => [(3, .int v), (4, .int y8), (0, .ref (o 0)), (1, .int v1), (2, .int v2)]) C dX_lowestFrom_64 4 rfl (by decide) (by decide) (fun _ => rfl) (fun y9 ey9 => ?_)
          replace hs := hs y9 ey9
          refine gx_goto C dX_lowestFrom_67 4 rfl ?_
          exact gx_sub [2, 3, 4, 0] rfl hs
        · have hs := hf hc
          refine gx_iload_n C dX_lowestFrom_43 3 rfl rfl ?_
          obtain ⟨ht, hf⟩ := hs
          refine gx_if_eq C dX_lowestFrom_44 62 rfl (fun hc => ?_) (fun hc => ?_)
          · have hs := ht hc
            refine gx_iload_n C dX_lowestFrom_62 4 rfl rfl ?_
            refine gx_istore_n (L' := [(2, .int v3), (4, .int y8), (0, .ref (o 0)), (1, .int v1), (3, .int v3)]) C dX_lowestFrom_63 rfl (by decide) rfl ?_
            refine gx_iinc (v0 := 1) (f := fun v => [(3, .int v), (2, .int v3), (4, .int y8), (0, .ref (o 0)), (1, .int v1)]) C dX_lowestFrom_64 4 rfl (by decide) (by decide) (fun _ => rfl) (fun y10 ey10 => ?_)
            replace hs := hs y10 ey10
            refine gx_goto C dX_lowestFrom_67 4 rfl ?_
            exact gx_sub [3, 4, 1, 0] rfl hs
          · have hs := hf hc
            refine gx_aload_n C dX_lowestFrom_47 1 rfl rfl ?_
            refine gx_get C xo_this hi_X 1 (by decide) fl_X_22 rfl dX_lowestFrom_48 ?_
            refine gx_iload_n C dX_lowestFrom_51 4 rfl rfl ?_
            obtain ⟨hin, hs⟩ := hs
            refine gx_iald C xa_addresses hin dX_lowestFrom_52 ?_
            refine gx_aload_n C dX_lowestFrom_53 1 rfl rfl ?_
            refine gx_get C xo_this hi_X 1 (by decide) fl_X_22 rfl dX_lowestFrom_54 ?_
            refine gx_iload_n C dX_lowestFrom_57 3 rfl rfl ?_
            obtain ⟨hin, hs⟩ := hs
            refine gx_iald C xa_addresses hin dX_lowestFrom_58 ?_
            obtain ⟨ht, hf⟩ := hs
            refine gx_icmp_ge C dX_lowestFrom_59 64 rfl (fun hc => ?_) (fun hc => ?_)
            · have hs := ht hc
              refine gx_iinc (v0 := 1) (f := fun v => [(3, .int v), (4, .int y8), (0, .ref (o 0)), (1, .int v1), (2, .int v2)]) C dX_lowestFrom_64 4 rfl (by decide) (by decide) (fun _ => rfl) (fun y11 ey11 => ?_)
              replace hs := hs y11 ey11
              refine gx_goto C dX_lowestFrom_67 4 rfl ?_
              exact gx_sub [2, 3, 4, 0] rfl hs
            · have hs := hf hc
              refine gx_iload_n C dX_lowestFrom_62 4 rfl rfl ?_
              refine gx_istore_n (L' := [(2, .int v3), (4, .int y8), (0, .ref (o 0)), (1, .int v1), (3, .int v3)]) C dX_lowestFrom_63 rfl (by decide) rfl ?_
              refine gx_iinc (v0 := 1) (f := fun v => [(3, .int v), (2, .int v3), (4, .int y8), (0, .ref (o 0)), (1, .int v1)]) C dX_lowestFrom_64 4 rfl (by decide) (by decide) (fun _ => rfl) (fun y12 ey12 => ?_)
              replace hs := hs y12 ey12
              refine gx_goto C dX_lowestFrom_67 4 rfl ?_
              exact gx_sub [3, 4, 1, 0] rfl hs
      · have hs := hf hc
        refine gx_iconst (v := 1) C dX_lowestFrom_31 (by decide) ?_
        refine gx_goto C dX_lowestFrom_32 36 rfl ?_
        refine gx_top (fun y13 ey13 => ?_)
        replace hs := hs y13 ey13
        refine gx_istore (L' := [(4, .int y13), (0, .ref (o 0)), (1, .int v1), (2, .int v2), (3, .int v3)]) C dX_lowestFrom_36 (by decide) rfl ?_
        refine gx_iload C dX_lowestFrom_38 0 rfl ?_
        obtain ⟨ht, hf⟩ := hs
        refine gx_if_eq C dX_lowestFrom_40 64 rfl (fun hc => ?_) (fun hc => ?_)
        · have hs := ht hc
          refine gx_iinc (v0 := 1) (f := fun v => [(3, .int v), (4, .int y13), (0, .ref (o 0)), (1, .int v1), (2, .int v2)]) C dX_lowestFrom_64 4 rfl (by decide) (by decide) (fun _ => rfl) (fun y14 ey14 => ?_)
          replace hs := hs y14 ey14
          refine gx_goto C dX_lowestFrom_67 4 rfl ?_
          exact gx_sub [2, 3, 4, 0] rfl hs
        · have hs := hf hc
          refine gx_iload_n C dX_lowestFrom_43 3 rfl rfl ?_
          obtain ⟨ht, hf⟩ := hs
          refine gx_if_eq C dX_lowestFrom_44 62 rfl (fun hc => ?_) (fun hc => ?_)
          · have hs := ht hc
            refine gx_iload_n C dX_lowestFrom_62 4 rfl rfl ?_
            refine gx_istore_n (L' := [(2, .int v3), (4, .int y13), (0, .ref (o 0)), (1, .int v1), (3, .int v3)]) C dX_lowestFrom_63 rfl (by decide) rfl ?_
            refine gx_iinc (v0 := 1) (f := fun v => [(3, .int v), (2, .int v3), (4, .int y13), (0, .ref (o 0)), (1, .int v1)]) C dX_lowestFrom_64 4 rfl (by decide) (by decide) (fun _ => rfl) (fun y15 ey15 => ?_)
            replace hs := hs y15 ey15
            refine gx_goto C dX_lowestFrom_67 4 rfl ?_
            exact gx_sub [3, 4, 1, 0] rfl hs
          · have hs := hf hc
            refine gx_aload_n C dX_lowestFrom_47 1 rfl rfl ?_
            refine gx_get C xo_this hi_X 1 (by decide) fl_X_22 rfl dX_lowestFrom_48 ?_
            refine gx_iload_n C dX_lowestFrom_51 4 rfl rfl ?_
            obtain ⟨hin, hs⟩ := hs
            refine gx_iald C xa_addresses hin dX_lowestFrom_52 ?_
            refine gx_aload_n C dX_lowestFrom_53 1 rfl rfl ?_
            refine gx_get C xo_this hi_X 1 (by decide) fl_X_22 rfl dX_lowestFrom_54 ?_
            refine gx_iload_n C dX_lowestFrom_57 3 rfl rfl ?_
            obtain ⟨hin, hs⟩ := hs
            refine gx_iald C xa_addresses hin dX_lowestFrom_58 ?_
            obtain ⟨ht, hf⟩ := hs
            refine gx_icmp_ge C dX_lowestFrom_59 64 rfl (fun hc => ?_) (fun hc => ?_)
            · have hs := ht hc
              refine gx_iinc (v0 := 1) (f := fun v => [(3, .int v), (4, .int y13), (0, .ref (o 0)), (1, .int v1), (2, .int v2)]) C dX_lowestFrom_64 4 rfl (by decide) (by decide) (fun _ => rfl) (fun y16 ey16 => ?_)
              replace hs := hs y16 ey16
              refine gx_goto C dX_lowestFrom_67 4 rfl ?_
              exact gx_sub [2, 3, 4, 0] rfl hs
            · have hs := hf hc
              refine gx_iload_n C dX_lowestFrom_62 4 rfl rfl ?_
              refine gx_istore_n (L' := [(2, .int v3), (4, .int y13), (0, .ref (o 0)), (1, .int v1), (3, .int v3)]) C dX_lowestFrom_63 rfl (by decide) rfl ?_
              refine gx_iinc (v0 := 1) (f := fun v => [(3, .int v), (2, .int v3), (4, .int y13), (0, .ref (o 0)), (1, .int v1)]) C dX_lowestFrom_64 4 rfl (by decide) (by decide) (fun _ => rfl) (fun y17 ey17 => ?_)
              replace hs := hs y17 ey17
              refine gx_goto C dX_lowestFrom_67 4 rfl ?_
              exact gx_sub [3, 4, 1, 0] rfl hs
set_option maxHeartbeats 4000000 in
set_option maxRecDepth 100000 in
theorem mt_X_lowestFrom (l : Launch) (dC : Nat → ClassId) (dI : Nat → Nat → Nat) (cI cZ : ClassId) (o : Nat → Nat) (W E : Nat) (v1 : Int32) (S : GS) (post : Int32 → GS → Prop) (h : wp_X_lowestFrom W E [v1] S post) : MetI l yX_lowestFrom (Cond.code yX_lowestFrom cX_lowestFrom 5 (some .int) :: wsA) ({ frames := 1, cells := 0, slots := 0, locals := 21 }) (dC, dI) gx_cl [(cI, .int), (cZ, .boolean)] (xw cI cZ o W E) [.ref (o 0), .int v1] S post := by
  refine gx_metI (by decide) wsA_good (Nat.le_of_ble_eq_true rfl) ?_
  intro p e s m args below meth c A C hr hlocks
  refine h (vh_X_lowestFrom o (GV p l e { frames := 1, cells := 0, slots := 0, locals := 21 } s m args below meth c (MQ below (va_Qi post (GB (xw cI cZ o W E) (dC, dI) gx_cl [(cI, .int), (cZ, .boolean)] A) A) args s 0 0 A) 5 (dC, dI) gx_cl A (xw cI cZ o W E))) (fun h S xs hs => ?_)
  unfold sp_X_lowestFrom at hs
  split at hs
  · exact wk_X_lowestFrom_0 C hr hlocks _ _ hs
  · exact wk_X_lowestFrom_4 C hr hlocks _ _ _ _ hs
  · exact hs.elim
/-- CountedObjects.moveTogether()I: a step from head to head -/
def sp_X_moveTogether (W E : Nat) (post : Int32 → GS → Prop) (V : Nat → GS → List Int32 → Prop) (h : Nat) (S : GS) (xs : List Int32) : Prop := match h, xs with
  | 0, [] => ∀ y1 : Int32, y1 = 0 → ∀ y2 : Int32, y2 = 0 → ∀ y3 : Int32, y3 = 1 → V 6 S [y1, y2, y3]
  | 6, [v1, v2, v3] => (((nI (E + 1)) ≤ v3 → wp_F_clear W E [] S (fun S1 => (((nI W) ≤ v2 → post v1 S1) ∧ (¬ (nI W) ≤ v2 → wp_F_add W E [v2, (nI W) - v2] S1 (fun S3 => post v1 S3))))) ∧ (¬ (nI (E + 1)) ≤ v3 → wp_X_lowestFrom W E [v2] S (fun r6 S5 => ((¬ r6 = 0 → wp_X_wordsOf W E [r6] S5 (fun r8 S7 => (vp_in r6 (E + 1) ∧ (((S7 1 (r6).toNatClampNeg) = v2 → ∀ y9 : Int32, y9 = v2 + r8 → (∀ y10 : Int32, y10 = v3 + 1 → V 6 S7 [v1, y9, y10])) ∧ (¬ (S7 1 (r6).toNatClampNeg) = v2 → (vp_in r6 (E + 1) ∧ (¬ (S7 1 (r6).toNatClampNeg) < 0 ∧ ¬ v2 < 0 ∧ ¬ r8 < 0 ∧ (S7 1 (r6).toNatClampNeg).toNatClampNeg + (r8).toNatClampNeg ≤ W ∧ (v2).toNatClampNeg + (r8).toNatClampNeg ≤ W ∧ ∀ S11 : GS, S11 = gx_row 0 (va_cpy (S7 0) (S7 0) (S7 1 (r6).toNatClampNeg).toNatClampNeg (v2).toNatClampNeg (r8).toNatClampNeg) S7 → (vp_in r6 (E + 1) ∧ ∀ S12 : GS, S12 = gx_set 1 (r6).toNatClampNeg v2 S11 → (∀ y13 : Int32, y13 = v1 + 1 → ∀ y14 : Int32, y14 = v2 + r8 → (∀ y15 : Int32, y15 = v3 + 1 → V 6 S12 [y13, y14, y15])))))))))) ∧ (r6 = 0 → wp_F_clear W E [] S5 (fun S16 => (((nI W) ≤ v2 → post v1 S16) ∧ (¬ (nI W) ≤ v2 → wp_F_add W E [v2, (nI W) - v2] S16 (fun S18 => post v1 S18)))))))))
  | _, _ => False
def wp_X_moveTogether (W E : Nat) (xs : List Int32) (S : GS) (post : Int32 → GS → Prop) : Prop := ∀ V : Nat → GS → List Int32 → Prop, (∀ h S xs, sp_X_moveTogether W E post V h S xs → V h S xs) → V 0 S xs
def vh_X_moveTogether (o : Nat → Nat) (G : GS → Nat → List (Nat × Value) → List Value → Prop) (h : Nat) (S : GS) (xs : List Int32) : Prop := match h, xs with
  | 0, [] => G S 0 [(0, .ref (o 0))] []
  | 6, [v1, v2, v3] => G S 6 [(0, .ref (o 0)), (1, .int v1), (2, .int v2), (3, .int v3)] []
  | _, _ => True
set_option maxHeartbeats 4000000 in
set_option maxRecDepth 100000 in
theorem wk_X_moveTogether_0 {l : Launch} {dC : Nat → ClassId} {dI : Nat → Nat → Nat} {cI cZ : ClassId} {o : Nat → Nat} {W E : Nat} {p : Program} {e : Env} {s : State} {m : MethodId} {args : Array Value} {below : List Frame} {meth : Method} {c : Code} {A : Nat → Prop} {post : Int32 → GS → Prop} (C : GC p s m args c cX_moveTogether 6 RX wsA (dC, dI) gx_cl [(cI, .int), (cZ, .boolean)] A) (hr : meth.sig.returnType = (some .int)) (hlocks : meth.locks = false) (S : GS) (hs : sp_X_moveTogether W E post (vh_X_moveTogether o (GV p l e { frames := 2, cells := 0, slots := 0, locals := 68 } s m args below meth c (MQ below (va_Qi post (GB (xw cI cZ o W E) (dC, dI) gx_cl [(cI, .int), (cZ, .boolean)] A) A) args s 0 0 A) 6 (dC, dI) gx_cl A (xw cI cZ o W E))) 0 S []) : GV p l e { frames := 2, cells := 0, slots := 0, locals := 68 } s m args below meth c (MQ below (va_Qi post (GB (xw cI cZ o W E) (dC, dI) gx_cl [(cI, .int), (cZ, .boolean)] A) A) args s 0 0 A) 6 (dC, dI) gx_cl A (xw cI cZ o W E) S 0 [(0, .ref (o 0))] [] := by
  refine gx_iconst (v := 0) C dX_moveTogether_0 (by decide) ?_
  refine gx_top (fun y1 ey1 => ?_)
  replace hs := hs y1 ey1
  refine gx_istore_n (L' := [(1, .int y1), (0, .ref (o 0))]) C dX_moveTogether_1 rfl (by decide) rfl ?_
  refine gx_iconst (v := 0) C dX_moveTogether_2 (by decide) ?_
  refine gx_top (fun y2 ey2 => ?_)
  replace hs := hs y2 ey2
  refine gx_istore_n (L' := [(2, .int y2), (1, .int y1), (0, .ref (o 0))]) C dX_moveTogether_3 rfl (by decide) rfl ?_
  refine gx_iconst (v := 1) C dX_moveTogether_4 (by decide) ?_
  refine gx_top (fun y3 ey3 => ?_)
  replace hs := hs y3 ey3
  refine gx_istore_n (L' := [(3, .int y3), (2, .int y2), (1, .int y1), (0, .ref (o 0))]) C dX_moveTogether_5 rfl (by decide) rfl ?_
  exact gx_sub [3, 2, 1, 0] rfl hs
set_option maxHeartbeats 4000000 in
set_option maxRecDepth 100000 in
theorem wk_X_moveTogether_6 {l : Launch} {dC : Nat → ClassId} {dI : Nat → Nat → Nat} {cI cZ : ClassId} {o : Nat → Nat} {W E : Nat} {p : Program} {e : Env} {s : State} {m : MethodId} {args : Array Value} {below : List Frame} {meth : Method} {c : Code} {A : Nat → Prop} {post : Int32 → GS → Prop} (C : GC p s m args c cX_moveTogether 6 RX wsA (dC, dI) gx_cl [(cI, .int), (cZ, .boolean)] A) (hr : meth.sig.returnType = (some .int)) (hlocks : meth.locks = false) (S : GS) (v1 : Int32) (v2 : Int32) (v3 : Int32) (hs : sp_X_moveTogether W E post (vh_X_moveTogether o (GV p l e { frames := 2, cells := 0, slots := 0, locals := 68 } s m args below meth c (MQ below (va_Qi post (GB (xw cI cZ o W E) (dC, dI) gx_cl [(cI, .int), (cZ, .boolean)] A) A) args s 0 0 A) 6 (dC, dI) gx_cl A (xw cI cZ o W E))) 6 S [v1, v2, v3]) : GV p l e { frames := 2, cells := 0, slots := 0, locals := 68 } s m args below meth c (MQ below (va_Qi post (GB (xw cI cZ o W E) (dC, dI) gx_cl [(cI, .int), (cZ, .boolean)] A) A) args s 0 0 A) 6 (dC, dI) gx_cl A (xw cI cZ o W E) S 6 [(0, .ref (o 0)), (1, .int v1), (2, .int v2), (3, .int v3)] [] := by
  refine gx_iload_n C dX_moveTogether_6 3 rfl rfl ?_
  refine gx_aload_n C dX_moveTogether_7 0 rfl rfl ?_
  refine gx_get C xo_this hi_X 1 (by decide) fl_X_22 rfl dX_moveTogether_8 ?_
  refine gx_alen C xa_addresses dX_moveTogether_11 ?_
  obtain ⟨ht, hf⟩ := hs
  refine gx_icmp_ge C dX_moveTogether_12 92 rfl (fun hc => ?_) (fun hc => ?_)
  · have hs := ht hc
    refine gx_aload_n C dX_moveTogether_92 0 rfl rfl ?_
    refine gx_get C xo_this hi_X 4 (by decide) fl_X_36 rfl dX_moveTogether_93 ?_
    refine gx_callv (As := []) (rest := []) C (mt_F_clear l dC dI cI cZ o W E _ _ hs) (gx_cwV C 0 ln_X_150 im_F_clear se_F_clear in_CountedObjects_FreeChunks cd_F_clear rfl rfl (by decide +kernel) ⟨Nat.le_of_ble_eq_true rfl, Nat.le_of_ble_eq_true rfl⟩) xo_fc rfl (Nat.le_of_ble_eq_true rfl) dX_moveTogether_96 (fun S1 => xw_ad _ S1) rfl (fun S1 hs => ?_)
    refine gx_iload_n C dX_moveTogether_99 2 rfl rfl ?_
    refine gx_aload_n C dX_moveTogether_100 0 rfl rfl ?_
    refine gx_get C xo_this hi_X 0 (by decide) fl_X_18 rfl dX_moveTogether_101 ?_
    refine gx_alen C xa_words dX_moveTogether_104 ?_
    obtain ⟨ht, hf⟩ := hs
    refine gx_icmp_ge C dX_moveTogether_105 123 rfl (fun hc => ?_) (fun hc => ?_)
    · have hs := ht hc
      refine gx_iload_n C dX_moveTogether_123 1 rfl rfl ?_
      exact gx_iret C hr hlocks dX_moveTogether_124 hs
    · have hs := hf hc
      refine gx_aload_n C dX_moveTogether_108 0 rfl rfl ?_
      refine gx_get C xo_this hi_X 4 (by decide) fl_X_36 rfl dX_moveTogether_109 ?_
      refine gx_iload_n C dX_moveTogether_112 2 rfl rfl ?_
      refine gx_aload_n C dX_moveTogether_113 0 rfl rfl ?_
      refine gx_get C xo_this hi_X 0 (by decide) fl_X_18 rfl dX_moveTogether_114 ?_
      refine gx_alen C xa_words dX_moveTogether_117 ?_
      refine gx_iload_n C dX_moveTogether_118 2 rfl rfl ?_
      refine gx_isub C dX_moveTogether_119 ?_
      refine gx_callv (As := [.int v2, .int ((nI W) - v2)]) (rest := []) C (mt_F_add l dC dI cI cZ o W E _ _ _ _ hs) (gx_cwV C 2 ln_X_132 im_F_add se_F_add in_CountedObjects_FreeChunks cd_F_add rfl rfl (by decide +kernel) ⟨Nat.le_of_ble_eq_true rfl, Nat.le_of_ble_eq_true rfl⟩) xo_fc rfl (Nat.le_of_ble_eq_true rfl) dX_moveTogether_120 (fun S1 => xw_ad _ S1) rfl (fun S3 hs => ?_)
      refine gx_iload_n C dX_moveTogether_123 1 rfl rfl ?_
      exact gx_iret C hr hlocks dX_moveTogether_124 hs
  · have hs := hf hc
    refine gx_aload_n C dX_moveTogether_15 0 rfl rfl ?_
    refine gx_iload_n C dX_moveTogether_16 2 rfl rfl ?_
    refine gx_calli (As := [.int v2]) (rest := []) C (mt_X_lowestFrom l dC dI cI cZ o W E _ _ _ hs) (gx_cwV C 1 ln_X_141 im_X_lowestFrom se_X_lowestFrom in_CountedObjects cd_X_lowestFrom rfl rfl (by decide +kernel) ⟨Nat.le_of_ble_eq_true rfl, Nat.le_of_ble_eq_true rfl⟩) xo_this rfl (Nat.le_of_ble_eq_true rfl) dX_moveTogether_17 (fun S1 => xw_ad _ S1) rfl (fun r6 S5 hs => ?_)
    refine gx_istore (L' := [(4, .int r6), (0, .ref (o 0)), (1, .int v1), (2, .int v2), (3, .int v3)]) C dX_moveTogether_20 (by decide) rfl ?_
    refine gx_iload C dX_moveTogether_22 0 rfl ?_
    obtain ⟨ht, hf⟩ := hs
    refine gx_if_ne C dX_moveTogether_24 30 rfl (fun hc => ?_) (fun hc => ?_)
    · have hs := ht hc
      refine gx_aload_n C dX_moveTogether_30 1 rfl rfl ?_
      refine gx_iload C dX_moveTogether_31 0 rfl ?_
      refine gx_calli (As := [.int r6]) (rest := []) C (mt_X_wordsOf l dC dI cI cZ o W E _ _ _ hs) (gx_cwV C 1 ln_X_126 im_X_wordsOf se_X_wordsOf in_CountedObjects cd_X_wordsOf rfl rfl (by decide +kernel) ⟨Nat.le_of_ble_eq_true rfl, Nat.le_of_ble_eq_true rfl⟩) xo_this rfl (Nat.le_of_ble_eq_true rfl) dX_moveTogether_33 (fun S1 => xw_ad _ S1) rfl (fun r8 S7 hs => ?_)
      refine gx_istore (L' := [(5, .int r8), (4, .int r6), (0, .ref (o 0)), (1, .int v1), (2, .int v2), (3, .int v3)]) C dX_moveTogether_36 (by decide) rfl ?_
      refine gx_aload_n C dX_moveTogether_38 2 rfl rfl ?_
      refine gx_get C xo_this hi_X 1 (by decide) fl_X_22 rfl dX_moveTogether_39 ?_
      refine gx_iload C dX_moveTogether_42 1 rfl ?_
      obtain ⟨hin, hs⟩ := hs
      refine gx_iald C xa_addresses hin dX_moveTogether_44 ?_
      refine gx_iload_n C dX_moveTogether_45 4 rfl rfl ?_
      obtain ⟨ht, hf⟩ := hs
      refine gx_icmp_eq C dX_moveTogether_46 81 rfl (fun hc => ?_) (fun hc => ?_)
      · have hs := ht hc
        refine gx_iload_n C dX_moveTogether_81 4 rfl rfl ?_
        refine gx_iload C dX_moveTogether_82 0 rfl ?_
        refine gx_iadd C dX_moveTogether_84 ?_
        refine gx_top (fun y9 ey9 => ?_)
        replace hs := hs y9 ey9
        refine gx_istore_n (L' := [(2, .int y9), (5, .int r8), (4, .int r6), (0, .ref (o 0)), (1, .int v1), (3, .int v3)]) C dX_moveTogether_85 rfl (by decide) rfl ?_
        refine gx_iinc (v0 := 1) (f := fun v => [(3, .int v), (2, .int y9), (5, .int r8), (4, .int r6), (0, .ref (o 0)), (1, .int v1)]) C dX_moveTogether_86 5 rfl (by decide) (by decide) (fun _ => rfl) (fun y10 ey10 => ?_)
        replace hs := hs y10 ey10
        refine gx_goto C dX_moveTogether_89 6 rfl ?_
        exact gx_sub [4, 5, 1, 0] rfl hs
      · have hs := hf hc
        refine gx_aload_n C dX_moveTogether_49 2 rfl rfl ?_
        refine gx_get C xo_this hi_X 0 (by decide) fl_X_18 rfl dX_moveTogether_50 ?_
        refine gx_aload_n C dX_moveTogether_53 2 rfl rfl ?_
        refine gx_get C xo_this hi_X 1 (by decide) fl_X_22 rfl dX_moveTogether_54 ?_
        refine gx_iload C dX_moveTogether_57 1 rfl ?_
        obtain ⟨hin, hs⟩ := hs
        refine gx_iald C xa_addresses hin dX_moveTogether_59 ?_
        refine gx_aload_n C dX_moveTogether_60 2 rfl rfl ?_
        refine gx_get C xo_this hi_X 0 (by decide) fl_X_18 rfl dX_moveTogether_61 ?_
        refine gx_iload_n C dX_moveTogether_64 4 rfl rfl ?_
        refine gx_iload C dX_moveTogether_65 0 rfl ?_
        obtain ⟨h1, h2, h3, h4, h5, hs⟩ := hs
        refine gx_copy C xa_words ln_X_144 na_copy sm_copy in_java_lang_System h1 h2 h3 h4 h5 (Nat.le_of_ble_eq_true rfl) (Nat.le_of_ble_eq_true rfl) dX_moveTogether_67 (fun S11 eS11 => ?_)
        replace hs := hs S11 eS11
        refine gx_aload_n C dX_moveTogether_70 2 rfl rfl ?_
        refine gx_get C xo_this hi_X 1 (by decide) fl_X_22 rfl dX_moveTogether_71 ?_
        refine gx_iload C dX_moveTogether_74 1 rfl ?_
        refine gx_iload_n C dX_moveTogether_76 4 rfl rfl ?_
        obtain ⟨hin, hs⟩ := hs
        refine gx_iast C xa_addresses hin dX_moveTogether_77 (fun S12 eS12 => ?_)
        replace hs := hs S12 eS12
        refine gx_iinc (v0 := 1) (f := fun v => [(1, .int v), (5, .int r8), (4, .int r6), (0, .ref (o 0)), (2, .int v2), (3, .int v3)]) C dX_moveTogether_78 3 rfl (by decide) (by decide) (fun _ => rfl) (fun y13 ey13 => ?_)
        replace hs := hs y13 ey13
        refine gx_iload_n C dX_moveTogether_81 4 rfl rfl ?_
        refine gx_iload C dX_moveTogether_82 1 rfl ?_
        refine gx_iadd C dX_moveTogether_84 ?_
        refine gx_top (fun y14 ey14 => ?_)
        replace hs := hs y14 ey14
        refine gx_istore_n (L' := [(2, .int y14), (1, .int y13), (5, .int r8), (4, .int r6), (0, .ref (o 0)), (3, .int v3)]) C dX_moveTogether_85 rfl (by decide) rfl ?_
        refine gx_iinc (v0 := 1) (f := fun v => [(3, .int v), (2, .int y14), (1, .int y13), (5, .int r8), (4, .int r6), (0, .ref (o 0))]) C dX_moveTogether_86 5 rfl (by decide) (by decide) (fun _ => rfl) (fun y15 ey15 => ?_)
        replace hs := hs y15 ey15
        refine gx_goto C dX_moveTogether_89 6 rfl ?_
        exact gx_sub [5, 2, 1, 0] rfl hs
    · have hs := hf hc
      refine gx_goto C dX_moveTogether_27 92 rfl ?_
      refine gx_aload_n C dX_moveTogether_92 1 rfl rfl ?_
      refine gx_get C xo_this hi_X 4 (by decide) fl_X_36 rfl dX_moveTogether_93 ?_
      refine gx_callv (As := []) (rest := []) C (mt_F_clear l dC dI cI cZ o W E _ _ hs) (gx_cwV C 0 ln_X_150 im_F_clear se_F_clear in_CountedObjects_FreeChunks cd_F_clear rfl rfl (by decide +kernel) ⟨Nat.le_of_ble_eq_true rfl, Nat.le_of_ble_eq_true rfl⟩) xo_fc rfl (Nat.le_of_ble_eq_true rfl) dX_moveTogether_96 (fun S1 => xw_ad _ S1) rfl (fun S16 hs => ?_)
      refine gx_iload_n C dX_moveTogether_99 3 rfl rfl ?_
      refine gx_aload_n C dX_moveTogether_100 1 rfl rfl ?_
      refine gx_get C xo_this hi_X 0 (by decide) fl_X_18 rfl dX_moveTogether_101 ?_
      refine gx_alen C xa_words dX_moveTogether_104 ?_
      obtain ⟨ht, hf⟩ := hs
      refine gx_icmp_ge C dX_moveTogether_105 123 rfl (fun hc => ?_) (fun hc => ?_)
      · have hs := ht hc
        refine gx_iload_n C dX_moveTogether_123 2 rfl rfl ?_
        exact gx_iret C hr hlocks dX_moveTogether_124 hs
      · have hs := hf hc
        refine gx_aload_n C dX_moveTogether_108 1 rfl rfl ?_
        refine gx_get C xo_this hi_X 4 (by decide) fl_X_36 rfl dX_moveTogether_109 ?_
        refine gx_iload_n C dX_moveTogether_112 3 rfl rfl ?_
        refine gx_aload_n C dX_moveTogether_113 1 rfl rfl ?_
        refine gx_get C xo_this hi_X 0 (by decide) fl_X_18 rfl dX_moveTogether_114 ?_
        refine gx_alen C xa_words dX_moveTogether_117 ?_
        refine gx_iload_n C dX_moveTogether_118 3 rfl rfl ?_
        refine gx_isub C dX_moveTogether_119 ?_
        refine gx_callv (As := [.int v2, .int ((nI W) - v2)]) (rest := []) C (mt_F_add l dC dI cI cZ o W E _ _ _ _ hs) (gx_cwV C 2 ln_X_132 im_F_add se_F_add in_CountedObjects_FreeChunks cd_F_add rfl rfl (by decide +kernel) ⟨Nat.le_of_ble_eq_true rfl, Nat.le_of_ble_eq_true rfl⟩) xo_fc rfl (Nat.le_of_ble_eq_true rfl) dX_moveTogether_120 (fun S1 => xw_ad _ S1) rfl (fun S18 hs => ?_)
        refine gx_iload_n C dX_moveTogether_123 2 rfl rfl ?_
        exact gx_iret C hr hlocks dX_moveTogether_124 hs
set_option maxHeartbeats 4000000 in
set_option maxRecDepth 100000 in
theorem mt_X_moveTogether (l : Launch) (dC : Nat → ClassId) (dI : Nat → Nat → Nat) (cI cZ : ClassId) (o : Nat → Nat) (W E : Nat) (S : GS) (post : Int32 → GS → Prop) (h : wp_X_moveTogether W E [] S post) : MetI l yX_moveTogether (Cond.code yX_moveTogether cX_moveTogether 6 (some .int) :: wsA) ({ frames := 2, cells := 0, slots := 0, locals := 68 }) (dC, dI) gx_cl [(cI, .int), (cZ, .boolean)] (xw cI cZ o W E) [.ref (o 0)] S post := by
  refine gx_metI (by decide) wsA_good (Nat.le_of_ble_eq_true rfl) ?_
  intro p e s m args below meth c A C hr hlocks
  refine h (vh_X_moveTogether o (GV p l e { frames := 2, cells := 0, slots := 0, locals := 68 } s m args below meth c (MQ below (va_Qi post (GB (xw cI cZ o W E) (dC, dI) gx_cl [(cI, .int), (cZ, .boolean)] A) A) args s 0 0 A) 6 (dC, dI) gx_cl A (xw cI cZ o W E))) (fun h S xs hs => ?_)
  unfold sp_X_moveTogether at hs
  split at hs
  · exact wk_X_moveTogether_0 C hr hlocks _ hs
  · exact wk_X_moveTogether_6 C hr hlocks _ _ _ _ hs
  · exact hs.elim
/-- CountedObjects.place(I)I: a step from head to head -/
def sp_X_place (W E : Nat) (post : Int32 → GS → Prop) (V : Nat → GS → List Int32 → Prop) (h : Nat) (S : GS) (xs : List Int32) : Prop := match h, xs with
  | 0, [v1] => wp_F_take W E [v1] S (fun r2 S1 => ((¬ r2 = (-1) → post r2 S1) ∧ (r2 = (-1) → wp_F_allWords W E [] S1 (fun r4 S3 => ((r4 < v1 → post r2 S3) ∧ (¬ r4 < v1 → wp_X_moveTogether W E [] S3 (fun r6 S5 => wp_F_take W E [v1] S5 (fun r8 S7 => post r8 S7))))))))
  | _, _ => False
def wp_X_place (W E : Nat) (xs : List Int32) (S : GS) (post : Int32 → GS → Prop) : Prop := ∀ V : Nat → GS → List Int32 → Prop, (∀ h S xs, sp_X_place W E post V h S xs → V h S xs) → V 0 S xs
def vh_X_place (o : Nat → Nat) (G : GS → Nat → List (Nat × Value) → List Value → Prop) (h : Nat) (S : GS) (xs : List Int32) : Prop := match h, xs with
  | 0, [v1] => G S 0 [(0, .ref (o 0)), (1, .int v1)] []
  | _, _ => True
set_option maxHeartbeats 4000000 in
set_option maxRecDepth 100000 in
theorem wk_X_place_0 {l : Launch} {dC : Nat → ClassId} {dI : Nat → Nat → Nat} {cI cZ : ClassId} {o : Nat → Nat} {W E : Nat} {p : Program} {e : Env} {s : State} {m : MethodId} {args : Array Value} {below : List Frame} {meth : Method} {c : Code} {A : Nat → Prop} {post : Int32 → GS → Prop} (C : GC p s m args c cX_place 3 RX wsA (dC, dI) gx_cl [(cI, .int), (cZ, .boolean)] A) (hr : meth.sig.returnType = (some .int)) (hlocks : meth.locks = false) (S : GS) (v1 : Int32) (hs : sp_X_place W E post (vh_X_place o (GV p l e { frames := 3, cells := 0, slots := 0, locals := 113 } s m args below meth c (MQ below (va_Qi post (GB (xw cI cZ o W E) (dC, dI) gx_cl [(cI, .int), (cZ, .boolean)] A) A) args s 0 0 A) 3 (dC, dI) gx_cl A (xw cI cZ o W E))) 0 S [v1]) : GV p l e { frames := 3, cells := 0, slots := 0, locals := 113 } s m args below meth c (MQ below (va_Qi post (GB (xw cI cZ o W E) (dC, dI) gx_cl [(cI, .int), (cZ, .boolean)] A) A) args s 0 0 A) 3 (dC, dI) gx_cl A (xw cI cZ o W E) S 0 [(0, .ref (o 0)), (1, .int v1)] [] := by
  refine gx_aload_n C dX_place_0 0 rfl rfl ?_
  refine gx_get C xo_this hi_X 4 (by decide) fl_X_36 rfl dX_place_1 ?_
  refine gx_iload_n C dX_place_4 1 rfl rfl ?_
  refine gx_calli (As := [.int v1]) (rest := []) C (mt_F_take l dC dI cI cZ o W E _ _ _ hs) (gx_cwV C 1 ln_X_138 im_F_take se_F_take in_CountedObjects_FreeChunks cd_F_take rfl rfl (by decide +kernel) ⟨Nat.le_of_ble_eq_true rfl, Nat.le_of_ble_eq_true rfl⟩) xo_fc rfl (Nat.le_of_ble_eq_true rfl) dX_place_5 (fun S1 => xw_ad _ S1) rfl (fun r2 S1 hs => ?_)
  refine gx_istore_n (L' := [(2, .int r2), (0, .ref (o 0)), (1, .int v1)]) C dX_place_8 rfl (by decide) rfl ?_
  refine gx_iload_n C dX_place_9 0 rfl rfl ?_
  refine gx_iconst (v := (-1)) C dX_place_10 (by decide) ?_
  obtain ⟨ht, hf⟩ := hs
  refine gx_icmp_ne C dX_place_11 39 rfl (fun hc => ?_) (fun hc => ?_)
  · have hs := ht hc
    refine gx_iload_n C dX_place_39 0 rfl rfl ?_
    exact gx_iret C hr hlocks dX_place_40 hs
  · have hs := hf hc
    refine gx_aload_n C dX_place_14 1 rfl rfl ?_
    refine gx_get C xo_this hi_X 4 (by decide) fl_X_36 rfl dX_place_15 ?_
    refine gx_calli (As := []) (rest := []) C (mt_F_allWords l dC dI cI cZ o W E _ _ hs) (gx_cwV C 0 ln_X_117 im_F_allWords se_F_allWords in_CountedObjects_FreeChunks cd_F_allWords rfl rfl (by decide +kernel) ⟨Nat.le_of_ble_eq_true rfl, Nat.le_of_ble_eq_true rfl⟩) xo_fc rfl (Nat.le_of_ble_eq_true rfl) dX_place_18 (fun S1 => xw_ad _ S1) rfl (fun r4 S3 hs => ?_)
    refine gx_iload_n C dX_place_21 2 rfl rfl ?_
    obtain ⟨ht, hf⟩ := hs
    refine gx_icmp_lt C dX_place_22 39 rfl (fun hc => ?_) (fun hc => ?_)
    · have hs := ht hc
      refine gx_iload_n C dX_place_39 0 rfl rfl ?_
      exact gx_iret C hr hlocks dX_place_40 hs
    · have hs := hf hc
      refine gx_aload_n C dX_place_25 1 rfl rfl ?_
      refine gx_calli (As := []) (rest := []) C (mt_X_moveTogether l dC dI cI cZ o W E _ _ hs) (gx_cwV C 0 ln_X_108 im_X_moveTogether se_X_moveTogether in_CountedObjects cd_X_moveTogether rfl rfl (by decide +kernel) ⟨Nat.le_of_ble_eq_true rfl, Nat.le_of_ble_eq_true rfl⟩) xo_this rfl (Nat.le_of_ble_eq_true rfl) dX_place_26 (fun S1 => xw_ad _ S1) rfl (fun r6 S5 hs => ?_)
      refine gx_pop C dX_place_29 rfl ?_
      refine gx_aload_n C dX_place_30 1 rfl rfl ?_
      refine gx_get C xo_this hi_X 4 (by decide) fl_X_36 rfl dX_place_31 ?_
      refine gx_iload_n C dX_place_34 2 rfl rfl ?_
      refine gx_calli (As := [.int v1]) (rest := []) C (mt_F_take l dC dI cI cZ o W E _ _ _ hs) (gx_cwV C 1 ln_X_138 im_F_take se_F_take in_CountedObjects_FreeChunks cd_F_take rfl rfl (by decide +kernel) ⟨Nat.le_of_ble_eq_true rfl, Nat.le_of_ble_eq_true rfl⟩) xo_fc rfl (Nat.le_of_ble_eq_true rfl) dX_place_35 (fun S1 => xw_ad _ S1) rfl (fun r8 S7 hs => ?_)
      refine gx_istore_n (L' := [(2, .int r8), (0, .ref (o 0)), (1, .int v1)]) C dX_place_38 rfl (by decide) rfl ?_
      refine gx_iload_n C dX_place_39 0 rfl rfl ?_
      exact gx_iret C hr hlocks dX_place_40 hs
set_option maxHeartbeats 4000000 in
set_option maxRecDepth 100000 in
theorem mt_X_place (l : Launch) (dC : Nat → ClassId) (dI : Nat → Nat → Nat) (cI cZ : ClassId) (o : Nat → Nat) (W E : Nat) (v1 : Int32) (S : GS) (post : Int32 → GS → Prop) (h : wp_X_place W E [v1] S post) : MetI l yX_place (Cond.code yX_place cX_place 3 (some .int) :: wsA) ({ frames := 3, cells := 0, slots := 0, locals := 113 }) (dC, dI) gx_cl [(cI, .int), (cZ, .boolean)] (xw cI cZ o W E) [.ref (o 0), .int v1] S post := by
  refine gx_metI (by decide) wsA_good (Nat.le_of_ble_eq_true rfl) ?_
  intro p e s m args below meth c A C hr hlocks
  refine h (vh_X_place o (GV p l e { frames := 3, cells := 0, slots := 0, locals := 113 } s m args below meth c (MQ below (va_Qi post (GB (xw cI cZ o W E) (dC, dI) gx_cl [(cI, .int), (cZ, .boolean)] A) A) args s 0 0 A) 3 (dC, dI) gx_cl A (xw cI cZ o W E))) (fun h S xs hs => ?_)
  unfold sp_X_place at hs
  split at hs
  · exact wk_X_place_0 C hr hlocks _ _ hs
  · exact hs.elim
/-- CountedObjects.reach(I)V: a step from head to head -/
def sp_X_reach (W E : Nat) (post : GS → Prop) (V : Nat → GS → List Int32 → Prop) (h : Nat) (S : GS) (xs : List Int32) : Prop := match h, xs with
  | 0, [v1] => wp_X_isObject W E [v1] S (fun r2 S1 => ((r2 = 0 → post S1) ∧ (¬ r2 = 0 → (vp_in (v1 / 2) (E + 1) ∧ ((¬ (S1 4 (v1 / 2).toNatClampNeg) = 0 → post S1) ∧ ((S1 4 (v1 / 2).toNatClampNeg) = 0 → (vp_in (v1 / 2) (E + 1) ∧ ∀ S3 : GS, S3 = gx_set 4 (v1 / 2).toNatClampNeg 1 S1 → (vp_in (S3 100 1) E ∧ ∀ S4 : GS, S4 = gx_set 5 (S3 100 1).toNatClampNeg (v1 / 2) S3 → (∀ S5 : GS, S5 = gx_set 100 1 ((S4 100 1) + 1) S4 → post S5)))))))))
  | _, _ => False
def wp_X_reach (W E : Nat) (xs : List Int32) (S : GS) (post : GS → Prop) : Prop := ∀ V : Nat → GS → List Int32 → Prop, (∀ h S xs, sp_X_reach W E post V h S xs → V h S xs) → V 0 S xs
def vh_X_reach (o : Nat → Nat) (G : GS → Nat → List (Nat × Value) → List Value → Prop) (h : Nat) (S : GS) (xs : List Int32) : Prop := match h, xs with
  | 0, [v1] => G S 0 [(0, .ref (o 0)), (1, .int v1)] []
  | _, _ => True
set_option maxHeartbeats 4000000 in
set_option maxRecDepth 100000 in
theorem wk_X_reach_0 {l : Launch} {dC : Nat → ClassId} {dI : Nat → Nat → Nat} {cI cZ : ClassId} {o : Nat → Nat} {W E : Nat} {p : Program} {e : Env} {s : State} {m : MethodId} {args : Array Value} {below : List Frame} {meth : Method} {c : Code} {A : Nat → Prop} {post : GS → Prop} (C : GC p s m args c cX_reach 2 RX wsA (dC, dI) gx_cl [(cI, .int), (cZ, .boolean)] A) (hr : meth.sig.returnType = none) (hlocks : meth.locks = false) (S : GS) (v1 : Int32) (hs : sp_X_reach W E post (vh_X_reach o (GV p l e { frames := 2, cells := 0, slots := 0, locals := 42 } s m args below meth c (MQ below (va_Qv post (GB (xw cI cZ o W E) (dC, dI) gx_cl [(cI, .int), (cZ, .boolean)] A) A) args s 0 0 A) 2 (dC, dI) gx_cl A (xw cI cZ o W E))) 0 S [v1]) : GV p l e { frames := 2, cells := 0, slots := 0, locals := 42 } s m args below meth c (MQ below (va_Qv post (GB (xw cI cZ o W E) (dC, dI) gx_cl [(cI, .int), (cZ, .boolean)] A) A) args s 0 0 A) 2 (dC, dI) gx_cl A (xw cI cZ o W E) S 0 [(0, .ref (o 0)), (1, .int v1)] [] := by
  refine gx_aload_n C dX_reach_0 0 rfl rfl ?_
  refine gx_iload_n C dX_reach_1 1 rfl rfl ?_
  refine gx_calli (As := [.int v1]) (rest := []) C (mt_X_isObject l dC dI cI cZ o W E _ _ _ hs) (gx_cwV C 1 ln_X_87 im_X_isObject se_X_isObject in_CountedObjects cd_X_isObject rfl rfl (by decide +kernel) ⟨Nat.le_of_ble_eq_true rfl, Nat.le_of_ble_eq_true rfl⟩) xo_this rfl (Nat.le_of_ble_eq_true rfl) dX_reach_2 (fun S1 => xw_ad _ S1) rfl (fun r2 S1 hs => ?_)
  obtain ⟨ht, hf⟩ := hs
  refine gx_if_eq C dX_reach_5 50 rfl (fun hc => ?_) (fun hc => ?_)
  · have hs := ht hc
    exact gx_vret C hr hlocks dX_reach_50 hs
  · have hs := hf hc
    refine gx_aload_n C dX_reach_8 0 rfl rfl ?_
    refine gx_get C xo_this hi_X 5 (by decide) fl_X_40 rfl dX_reach_9 ?_
    refine gx_iload_n C dX_reach_12 1 rfl rfl ?_
    refine gx_iconst (v := 2) C dX_reach_13 (by decide) ?_
    refine gx_idiv C dX_reach_14 (by decide) ?_
    obtain ⟨hin, hs⟩ := hs
    refine gx_zald C xa_isReached hin dX_reach_15 ?_
    obtain ⟨ht, hf⟩ := hs
    refine gx_if_ne C dX_reach_16 50 rfl (fun hc => ?_) (fun hc => ?_)
    · have hs := ht hc
      exact gx_vret C hr hlocks dX_reach_50 hs
    · have hs := hf hc
      refine gx_aload_n C dX_reach_19 0 rfl rfl ?_
      refine gx_get C xo_this hi_X 5 (by decide) fl_X_40 rfl dX_reach_20 ?_
      refine gx_iload_n C dX_reach_23 1 rfl rfl ?_
      refine gx_iconst (v := 2) C dX_reach_24 (by decide) ?_
      refine gx_idiv C dX_reach_25 (by decide) ?_
      refine gx_iconst (v := 1) C dX_reach_26 (by decide) ?_
      obtain ⟨hin, hs⟩ := hs
      refine gx_zast C xa_isReached hin (by decide) dX_reach_27 (fun S3 eS3 => ?_)
      replace hs := hs S3 eS3
      refine gx_aload_n C dX_reach_28 0 rfl rfl ?_
      refine gx_get C xo_this hi_X 6 (by decide) fl_X_44 rfl dX_reach_29 ?_
      refine gx_aload_n C dX_reach_32 0 rfl rfl ?_
      refine gx_get C xo_this hi_X 7 (by decide) fl_X_47 rfl dX_reach_33 ?_
      refine gx_iload_n C dX_reach_36 1 rfl rfl ?_
      refine gx_iconst (v := 2) C dX_reach_37 (by decide) ?_
      refine gx_idiv C dX_reach_38 (by decide) ?_
      obtain ⟨hin, hs⟩ := hs
      refine gx_iast C xa_reachedEntries hin dX_reach_39 (fun S4 eS4 => ?_)
      replace hs := hs S4 eS4
      refine gx_aload_n C dX_reach_40 0 rfl rfl ?_
      refine gx_dup C dX_reach_41 rfl ?_
      refine gx_get C xo_this hi_X 7 (by decide) fl_X_47 rfl dX_reach_42 ?_
      refine gx_iconst (v := 1) C dX_reach_45 (by decide) ?_
      refine gx_iadd C dX_reach_46 ?_
      refine gx_put C xo_this hi_X tyX tyX_ok nmX 7 (by decide) fl_X_47 rfl (by decide +kernel) (Nat.le_of_ble_eq_true rfl) (xp_reachedHeld _ _) dX_reach_47 (fun S5 eS5 => ?_)
      replace hs := hs S5 eS5
      exact gx_vret C hr hlocks dX_reach_50 hs
set_option maxHeartbeats 4000000 in
set_option maxRecDepth 100000 in
theorem mt_X_reach (l : Launch) (dC : Nat → ClassId) (dI : Nat → Nat → Nat) (cI cZ : ClassId) (o : Nat → Nat) (W E : Nat) (v1 : Int32) (S : GS) (post : GS → Prop) (h : wp_X_reach W E [v1] S post) : MetV l yX_reach (Cond.code yX_reach cX_reach 2 none :: wsA) ({ frames := 2, cells := 0, slots := 0, locals := 42 }) (dC, dI) gx_cl [(cI, .int), (cZ, .boolean)] (xw cI cZ o W E) [.ref (o 0), .int v1] S post := by
  refine gx_metV (by decide) wsA_good (Nat.le_of_ble_eq_true rfl) ?_
  intro p e s m args below meth c A C hr hlocks
  refine h (vh_X_reach o (GV p l e { frames := 2, cells := 0, slots := 0, locals := 42 } s m args below meth c (MQ below (va_Qv post (GB (xw cI cZ o W E) (dC, dI) gx_cl [(cI, .int), (cZ, .boolean)] A) A) args s 0 0 A) 2 (dC, dI) gx_cl A (xw cI cZ o W E))) (fun h S xs hs => ?_)
  unfold sp_X_reach at hs
  split at hs
  · exact wk_X_reach_0 C hr hlocks _ _ hs
  · exact hs.elim
/-- CountedObjects.findReached(I)V: a step from head to head -/
def sp_X_findReached (W E : Nat) (post : GS → Prop) (V : Nat → GS → List Int32 → Prop) (h : Nat) (S : GS) (xs : List Int32) : Prop := match h, xs with
  | 0, [v1] => ∀ y1 : Int32, y1 = 1 → V 2 S [v1, y1]
  | 2, [v1, v2] => (((nI (E + 1)) ≤ v2 → (∀ S1 : GS, S1 = gx_set 100 1 0 S → ∀ y2 : Int32, y2 = 0 → V 31 S1 [v1, y2])) ∧ (¬ (nI (E + 1)) ≤ v2 → (vp_in v2 (E + 1) ∧ ∀ S3 : GS, S3 = gx_set 4 (v2).toNatClampNeg 0 S → (∀ y4 : Int32, y4 = v2 + 1 → V 2 S3 [v1, y4]))))
  | 31, [v1, v2] => ((8 ≤ v2 → wp_X_reach W E [v1] S (fun S1 => ∀ y3 : Int32, y3 = 0 → V 60 S1 [v1, y3])) ∧ (¬ 8 ≤ v2 → (vp_in v2 8 ∧ wp_X_reach W E [S 3 (v2).toNatClampNeg] S (fun S4 => (∀ y6 : Int32, y6 = v2 + 1 → V 31 S4 [v1, y6])))))
  | 60, [v1, v2] => (((S 100 1) ≤ v2 → post S) ∧ (¬ (S 100 1) ≤ v2 → (((nI E) ≤ v2 → post S) ∧ (¬ (nI E) ≤ v2 → (vp_in v2 E ∧ ∀ y1 : Int32, y1 = S 5 (v2).toNatClampNeg → (vp_in y1 (E + 1) ∧ wp_X_wordsOf W E [y1] S (fun r3 S2 => ∀ y4 : Int32, y4 = (S 1 (y1).toNatClampNeg) + r3 → (vp_in y1 (E + 1) ∧ ∀ y5 : Int32, y5 = (S2 1 (y1).toNatClampNeg) + 1 → V 108 S2 [v1, v2, y1, y4, y5]))))))))
  | 108, [v1, v2, v3, v4, v5] => ((v4 ≤ v5 → (∀ y1 : Int32, y1 = v2 + 1 → V 60 S [v1, y1])) ∧ (¬ v4 ≤ v5 → (vp_in v5 W ∧ wp_X_reach W E [S 0 (v5).toNatClampNeg] S (fun S2 => (∀ y4 : Int32, y4 = v5 + 1 → V 108 S2 [v1, v2, v3, v4, y4])))))
  | _, _ => False
def wp_X_findReached (W E : Nat) (xs : List Int32) (S : GS) (post : GS → Prop) : Prop := ∀ V : Nat → GS → List Int32 → Prop, (∀ h S xs, sp_X_findReached W E post V h S xs → V h S xs) → V 0 S xs
def vh_X_findReached (o : Nat → Nat) (G : GS → Nat → List (Nat × Value) → List Value → Prop) (h : Nat) (S : GS) (xs : List Int32) : Prop := match h, xs with
  | 0, [v1] => G S 0 [(0, .ref (o 0)), (1, .int v1)] []
  | 2, [v1, v2] => G S 2 [(0, .ref (o 0)), (1, .int v1), (2, .int v2)] []
  | 31, [v1, v2] => G S 31 [(0, .ref (o 0)), (1, .int v1), (2, .int v2)] []
  | 60, [v1, v2] => G S 60 [(0, .ref (o 0)), (1, .int v1), (2, .int v2)] []
  | 108, [v1, v2, v3, v4, v5] => G S 108 [(0, .ref (o 0)), (1, .int v1), (2, .int v2), (3, .int v3), (4, .int v4), (5, .int v5)] []
  | _, _ => True
set_option maxHeartbeats 4000000 in
set_option maxRecDepth 100000 in
theorem wk_X_findReached_0 {l : Launch} {dC : Nat → ClassId} {dI : Nat → Nat → Nat} {cI cZ : ClassId} {o : Nat → Nat} {W E : Nat} {p : Program} {e : Env} {s : State} {m : MethodId} {args : Array Value} {below : List Frame} {meth : Method} {c : Code} {A : Nat → Prop} {post : GS → Prop} (C : GC p s m args c cX_findReached 6 RX wsA (dC, dI) gx_cl [(cI, .int), (cZ, .boolean)] A) (hr : meth.sig.returnType = none) (hlocks : meth.locks = false) (S : GS) (v1 : Int32) (hs : sp_X_findReached W E post (vh_X_findReached o (GV p l e { frames := 3, cells := 0, slots := 0, locals := 63 } s m args below meth c (MQ below (va_Qv post (GB (xw cI cZ o W E) (dC, dI) gx_cl [(cI, .int), (cZ, .boolean)] A) A) args s 0 0 A) 6 (dC, dI) gx_cl A (xw cI cZ o W E))) 0 S [v1]) : GV p l e { frames := 3, cells := 0, slots := 0, locals := 63 } s m args below meth c (MQ below (va_Qv post (GB (xw cI cZ o W E) (dC, dI) gx_cl [(cI, .int), (cZ, .boolean)] A) A) args s 0 0 A) 6 (dC, dI) gx_cl A (xw cI cZ o W E) S 0 [(0, .ref (o 0)), (1, .int v1)] [] := by
  refine gx_iconst (v := 1) C dX_findReached_0 (by decide) ?_
  refine gx_top (fun y1 ey1 => ?_)
  replace hs := hs y1 ey1
  refine gx_istore_n (L' := [(2, .int y1), (0, .ref (o 0)), (1, .int v1)]) C dX_findReached_1 rfl (by decide) rfl ?_
  exact gx_sub [1, 2, 0] rfl hs
set_option maxHeartbeats 4000000 in
set_option maxRecDepth 100000 in
theorem wk_X_findReached_2 {l : Launch} {dC : Nat → ClassId} {dI : Nat → Nat → Nat} {cI cZ : ClassId} {o : Nat → Nat} {W E : Nat} {p : Program} {e : Env} {s : State} {m : MethodId} {args : Array Value} {below : List Frame} {meth : Method} {c : Code} {A : Nat → Prop} {post : GS → Prop} (C : GC p s m args c cX_findReached 6 RX wsA (dC, dI) gx_cl [(cI, .int), (cZ, .boolean)] A) (hr : meth.sig.returnType = none) (hlocks : meth.locks = false) (S : GS) (v1 : Int32) (v2 : Int32) (hs : sp_X_findReached W E post (vh_X_findReached o (GV p l e { frames := 3, cells := 0, slots := 0, locals := 63 } s m args below meth c (MQ below (va_Qv post (GB (xw cI cZ o W E) (dC, dI) gx_cl [(cI, .int), (cZ, .boolean)] A) A) args s 0 0 A) 6 (dC, dI) gx_cl A (xw cI cZ o W E))) 2 S [v1, v2]) : GV p l e { frames := 3, cells := 0, slots := 0, locals := 63 } s m args below meth c (MQ below (va_Qv post (GB (xw cI cZ o W E) (dC, dI) gx_cl [(cI, .int), (cZ, .boolean)] A) A) args s 0 0 A) 6 (dC, dI) gx_cl A (xw cI cZ o W E) S 2 [(0, .ref (o 0)), (1, .int v1), (2, .int v2)] [] := by
  refine gx_iload_n C dX_findReached_2 2 rfl rfl ?_
  refine gx_aload_n C dX_findReached_3 0 rfl rfl ?_
  refine gx_get C xo_this hi_X 5 (by decide) fl_X_40 rfl dX_findReached_4 ?_
  refine gx_alen C xa_isReached dX_findReached_7 ?_
  obtain ⟨ht, hf⟩ := hs
  refine gx_icmp_ge C dX_findReached_8 24 rfl (fun hc => ?_) (fun hc => ?_)
  · have hs := ht hc
    refine gx_aload_n C dX_findReached_24 0 rfl rfl ?_
    refine gx_iconst (v := 0) C dX_findReached_25 (by decide) ?_
    refine gx_put C xo_this hi_X tyX tyX_ok nmX 7 (by decide) fl_X_47 rfl (by decide +kernel) (Nat.le_of_ble_eq_true rfl) (xp_reachedHeld _ _) dX_findReached_26 (fun S1 eS1 => ?_)
    replace hs := hs S1 eS1
    refine gx_iconst (v := 0) C dX_findReached_29 (by decide) ?_
    refine gx_top (fun y2 ey2 => ?_)
    replace hs := hs y2 ey2
    refine gx_istore_n (L' := [(2, .int y2), (0, .ref (o 0)), (1, .int v1)]) C dX_findReached_30 rfl (by decide) rfl ?_
    exact gx_sub [1, 2, 0] rfl hs
  · have hs := hf hc
    refine gx_aload_n C dX_findReached_11 0 rfl rfl ?_
    refine gx_get C xo_this hi_X 5 (by decide) fl_X_40 rfl dX_findReached_12 ?_
    refine gx_iload_n C dX_findReached_15 2 rfl rfl ?_
    refine gx_iconst (v := 0) C dX_findReached_16 (by decide) ?_
    obtain ⟨hin, hs⟩ := hs
    refine gx_zast C xa_isReached hin (by decide) dX_findReached_17 (fun S3 eS3 => ?_)
    replace hs := hs S3 eS3
    refine gx_iinc (v0 := 1) (f := fun v => [(2, .int v), (0, .ref (o 0)), (1, .int v1)]) C dX_findReached_18 2 rfl (by decide) (by decide) (fun _ => rfl) (fun y4 ey4 => ?_)
    replace hs := hs y4 ey4
    refine gx_goto C dX_findReached_21 2 rfl ?_
    exact gx_sub [1, 2, 0] rfl hs
set_option maxHeartbeats 4000000 in
set_option maxRecDepth 100000 in
theorem wk_X_findReached_31 {l : Launch} {dC : Nat → ClassId} {dI : Nat → Nat → Nat} {cI cZ : ClassId} {o : Nat → Nat} {W E : Nat} {p : Program} {e : Env} {s : State} {m : MethodId} {args : Array Value} {below : List Frame} {meth : Method} {c : Code} {A : Nat → Prop} {post : GS → Prop} (C : GC p s m args c cX_findReached 6 RX wsA (dC, dI) gx_cl [(cI, .int), (cZ, .boolean)] A) (hr : meth.sig.returnType = none) (hlocks : meth.locks = false) (S : GS) (v1 : Int32) (v2 : Int32) (hs : sp_X_findReached W E post (vh_X_findReached o (GV p l e { frames := 3, cells := 0, slots := 0, locals := 63 } s m args below meth c (MQ below (va_Qv post (GB (xw cI cZ o W E) (dC, dI) gx_cl [(cI, .int), (cZ, .boolean)] A) A) args s 0 0 A) 6 (dC, dI) gx_cl A (xw cI cZ o W E))) 31 S [v1, v2]) : GV p l e { frames := 3, cells := 0, slots := 0, locals := 63 } s m args below meth c (MQ below (va_Qv post (GB (xw cI cZ o W E) (dC, dI) gx_cl [(cI, .int), (cZ, .boolean)] A) A) args s 0 0 A) 6 (dC, dI) gx_cl A (xw cI cZ o W E) S 31 [(0, .ref (o 0)), (1, .int v1), (2, .int v2)] [] := by
  refine gx_iload_n C dX_findReached_31 2 rfl rfl ?_
  refine gx_bipush (v := 8) C dX_findReached_32 (by decide) ?_
  obtain ⟨ht, hf⟩ := hs
  refine gx_icmp_ge C dX_findReached_34 53 rfl (fun hc => ?_) (fun hc => ?_)
  · have hs := ht hc
    refine gx_aload_n C dX_findReached_53 0 rfl rfl ?_
    refine gx_iload_n C dX_findReached_54 1 rfl rfl ?_
    refine gx_callv (As := [.int v1]) (rest := []) C (mt_X_reach l dC dI cI cZ o W E _ _ _ hs) (gx_cwV C 1 ln_X_159 im_X_reach se_X_reach in_CountedObjects cd_X_reach rfl rfl (by decide +kernel) ⟨Nat.le_of_ble_eq_true rfl, Nat.le_of_ble_eq_true rfl⟩) xo_this rfl (Nat.le_of_ble_eq_true rfl) dX_findReached_55 (fun S1 => xw_ad _ S1) rfl (fun S1 hs => ?_)
    refine gx_iconst (v := 0) C dX_findReached_58 (by decide) ?_
    refine gx_top (fun y3 ey3 => ?_)
    replace hs := hs y3 ey3
    refine gx_istore_n (L' := [(2, .int y3), (0, .ref (o 0)), (1, .int v1)]) C dX_findReached_59 rfl (by decide) rfl ?_
    exact gx_sub [1, 2, 0] rfl hs
  · have hs := hf hc
    refine gx_aload_n C dX_findReached_37 0 rfl rfl ?_
    refine gx_aload_n C dX_findReached_38 0 rfl rfl ?_
    refine gx_get C xo_this hi_X 3 (by decide) fl_X_28 rfl dX_findReached_39 ?_
    refine gx_iload_n C dX_findReached_42 2 rfl rfl ?_
    obtain ⟨hin, hs⟩ := hs
    refine gx_iald C xa_registers hin dX_findReached_43 ?_
    refine gx_callv (As := [.int (S 3 (v2).toNatClampNeg)]) (rest := []) C (mt_X_reach l dC dI cI cZ o W E _ _ _ hs) (gx_cwV C 1 ln_X_159 im_X_reach se_X_reach in_CountedObjects cd_X_reach rfl rfl (by decide +kernel) ⟨Nat.le_of_ble_eq_true rfl, Nat.le_of_ble_eq_true rfl⟩) xo_this rfl (Nat.le_of_ble_eq_true rfl) dX_findReached_44 (fun S1 => xw_ad _ S1) rfl (fun S4 hs => ?_)
    refine gx_iinc (v0 := 1) (f := fun v => [(2, .int v), (0, .ref (o 0)), (1, .int v1)]) C dX_findReached_47 2 rfl (by decide) (by decide) (fun _ => rfl) (fun y6 ey6 => ?_)
    replace hs := hs y6 ey6
    refine gx_goto C dX_findReached_50 31 rfl ?_
    exact gx_sub [1, 2, 0] rfl hs
set_option maxHeartbeats 4000000 in
set_option maxRecDepth 100000 in
theorem wk_X_findReached_60 {l : Launch} {dC : Nat → ClassId} {dI : Nat → Nat → Nat} {cI cZ : ClassId} {o : Nat → Nat} {W E : Nat} {p : Program} {e : Env} {s : State} {m : MethodId} {args : Array Value} {below : List Frame} {meth : Method} {c : Code} {A : Nat → Prop} {post : GS → Prop} (C : GC p s m args c cX_findReached 6 RX wsA (dC, dI) gx_cl [(cI, .int), (cZ, .boolean)] A) (hr : meth.sig.returnType = none) (hlocks : meth.locks = false) (S : GS) (v1 : Int32) (v2 : Int32) (hs : sp_X_findReached W E post (vh_X_findReached o (GV p l e { frames := 3, cells := 0, slots := 0, locals := 63 } s m args below meth c (MQ below (va_Qv post (GB (xw cI cZ o W E) (dC, dI) gx_cl [(cI, .int), (cZ, .boolean)] A) A) args s 0 0 A) 6 (dC, dI) gx_cl A (xw cI cZ o W E))) 60 S [v1, v2]) : GV p l e { frames := 3, cells := 0, slots := 0, locals := 63 } s m args below meth c (MQ below (va_Qv post (GB (xw cI cZ o W E) (dC, dI) gx_cl [(cI, .int), (cZ, .boolean)] A) A) args s 0 0 A) 6 (dC, dI) gx_cl A (xw cI cZ o W E) S 60 [(0, .ref (o 0)), (1, .int v1), (2, .int v2)] [] := by
  refine gx_iload_n C dX_findReached_60 2 rfl rfl ?_
  refine gx_aload_n C dX_findReached_61 0 rfl rfl ?_
  refine gx_get C xo_this hi_X 7 (by decide) fl_X_47 rfl dX_findReached_62 ?_
  obtain ⟨ht, hf⟩ := hs
  refine gx_icmp_ge C dX_findReached_65 138 rfl (fun hc => ?_) (fun hc => ?_)
  · have hs := ht hc
    exact gx_vret C hr hlocks dX_findReached_138 hs
  · have hs := hf hc
    refine gx_iload_n C dX_findReached_68 2 rfl rfl ?_
    refine gx_aload_n C dX_findReached_69 0 rfl rfl ?_
    refine gx_get C xo_this hi_X 6 (by decide) fl_X_44 rfl dX_findReached_70 ?_
    refine gx_alen C xa_reachedEntries dX_findReached_73 ?_
    obtain ⟨ht, hf⟩ := hs
    refine gx_icmp_ge C dX_findReached_74 138 rfl (fun hc => ?_) (fun hc => ?_)
    · have hs := ht hc
      exact gx_vret C hr hlocks dX_findReached_138 hs
    · have hs := hf hc
      refine gx_aload_n C dX_findReached_77 0 rfl rfl ?_
      refine gx_get C xo_this hi_X 6 (by decide) fl_X_44 rfl dX_findReached_78 ?_
      refine gx_iload_n C dX_findReached_81 2 rfl rfl ?_
      obtain ⟨hin, hs⟩ := hs
      refine gx_iald C xa_reachedEntries hin dX_findReached_82 ?_
      refine gx_top (fun y1 ey1 => ?_)
      replace hs := hs y1 ey1
      refine gx_istore_n (L' := [(3, .int y1), (0, .ref (o 0)), (1, .int v1), (2, .int v2)]) C dX_findReached_83 rfl (by decide) rfl ?_
      refine gx_aload_n C dX_findReached_84 1 rfl rfl ?_
      refine gx_get C xo_this hi_X 1 (by decide) fl_X_22 rfl dX_findReached_85 ?_
      refine gx_iload_n C dX_findReached_88 0 rfl rfl ?_
      obtain ⟨hin, hs⟩ := hs
      refine gx_iald C xa_addresses hin dX_findReached_89 ?_
      refine gx_aload_n C dX_findReached_90 1 rfl rfl ?_
      refine gx_iload_n C dX_findReached_91 0 rfl rfl ?_
      refine gx_calli (As := [.int y1]) (rest := [.int (S 1 (y1).toNatClampNeg)]) C (mt_X_wordsOf l dC dI cI cZ o W E _ _ _ hs) (gx_cwV C 1 ln_X_126 im_X_wordsOf se_X_wordsOf in_CountedObjects cd_X_wordsOf rfl rfl (by decide +kernel) ⟨Nat.le_of_ble_eq_true rfl, Nat.le_of_ble_eq_true rfl⟩) xo_this rfl (Nat.le_of_ble_eq_true rfl) dX_findReached_92 (fun S1 => xw_ad _ S1) rfl (fun r3 S2 hs => ?_)
      refine gx_iadd C dX_findReached_95 ?_
      refine gx_top (fun y4 ey4 => ?_)
      replace hs := hs y4 ey4
      refine gx_istore (L' := [(4, .int y4), (3, .int y1), (0, .ref (o 0)), (1, .int v1), (2, .int v2)]) C dX_findReached_96 (by decide) rfl ?_
      refine gx_aload_n C dX_findReached_98 2 rfl rfl ?_
      refine gx_get C xo_this hi_X 1 (by decide) fl_X_22 rfl dX_findReached_99 ?_
      refine gx_iload_n C dX_findReached_102 1 rfl rfl ?_
      obtain ⟨hin, hs⟩ := hs
      refine gx_iald C xa_addresses hin dX_findReached_103 ?_
      refine gx_iconst (v := 1) C dX_findReached_104 (by decide) ?_
      refine gx_iadd C dX_findReached_105 ?_
      refine gx_top (fun y5 ey5 => ?_)
      replace hs := hs y5 ey5
      refine gx_istore (L' := [(5, .int y5), (4, .int y4), (3, .int y1), (0, .ref (o 0)), (1, .int v1), (2, .int v2)]) C dX_findReached_106 (by decide) rfl ?_
      exact gx_sub [3, 4, 5, 2, 1, 0] rfl hs
set_option maxHeartbeats 4000000 in
set_option maxRecDepth 100000 in
theorem wk_X_findReached_108 {l : Launch} {dC : Nat → ClassId} {dI : Nat → Nat → Nat} {cI cZ : ClassId} {o : Nat → Nat} {W E : Nat} {p : Program} {e : Env} {s : State} {m : MethodId} {args : Array Value} {below : List Frame} {meth : Method} {c : Code} {A : Nat → Prop} {post : GS → Prop} (C : GC p s m args c cX_findReached 6 RX wsA (dC, dI) gx_cl [(cI, .int), (cZ, .boolean)] A) (hr : meth.sig.returnType = none) (hlocks : meth.locks = false) (S : GS) (v1 : Int32) (v2 : Int32) (v3 : Int32) (v4 : Int32) (v5 : Int32) (hs : sp_X_findReached W E post (vh_X_findReached o (GV p l e { frames := 3, cells := 0, slots := 0, locals := 63 } s m args below meth c (MQ below (va_Qv post (GB (xw cI cZ o W E) (dC, dI) gx_cl [(cI, .int), (cZ, .boolean)] A) A) args s 0 0 A) 6 (dC, dI) gx_cl A (xw cI cZ o W E))) 108 S [v1, v2, v3, v4, v5]) : GV p l e { frames := 3, cells := 0, slots := 0, locals := 63 } s m args below meth c (MQ below (va_Qv post (GB (xw cI cZ o W E) (dC, dI) gx_cl [(cI, .int), (cZ, .boolean)] A) A) args s 0 0 A) 6 (dC, dI) gx_cl A (xw cI cZ o W E) S 108 [(0, .ref (o 0)), (1, .int v1), (2, .int v2), (3, .int v3), (4, .int v4), (5, .int v5)] [] := by
  refine gx_iload C dX_findReached_108 5 rfl ?_
  refine gx_iload C dX_findReached_110 4 rfl ?_
  obtain ⟨ht, hf⟩ := hs
  refine gx_icmp_ge C dX_findReached_112 132 rfl (fun hc => ?_) (fun hc => ?_)
  · have hs := ht hc
    refine gx_iinc (v0 := 1) (f := fun v => [(2, .int v), (0, .ref (o 0)), (1, .int v1), (3, .int v3), (4, .int v4), (5, .int v5)]) C dX_findReached_132 2 rfl (by decide) (by decide) (fun _ => rfl) (fun y1 ey1 => ?_)
    replace hs := hs y1 ey1
    refine gx_goto C dX_findReached_135 60 rfl ?_
    exact gx_sub [1, 2, 0] rfl hs
  · have hs := hf hc
    refine gx_aload_n C dX_findReached_115 0 rfl rfl ?_
    refine gx_aload_n C dX_findReached_116 0 rfl rfl ?_
    refine gx_get C xo_this hi_X 0 (by decide) fl_X_18 rfl dX_findReached_117 ?_
    refine gx_iload C dX_findReached_120 5 rfl ?_
    obtain ⟨hin, hs⟩ := hs
    refine gx_iald C xa_words hin dX_findReached_122 ?_
    refine gx_callv (As := [.int (S 0 (v5).toNatClampNeg)]) (rest := []) C (mt_X_reach l dC dI cI cZ o W E _ _ _ hs) (gx_cwV C 1 ln_X_159 im_X_reach se_X_reach in_CountedObjects cd_X_reach rfl rfl (by decide +kernel) ⟨Nat.le_of_ble_eq_true rfl, Nat.le_of_ble_eq_true rfl⟩) xo_this rfl (Nat.le_of_ble_eq_true rfl) dX_findReached_123 (fun S1 => xw_ad _ S1) rfl (fun S2 hs => ?_)
    refine gx_iinc (v0 := 1) (f := fun v => [(5, .int v), (0, .ref (o 0)), (1, .int v1), (2, .int v2), (3, .int v3), (4, .int v4)]) C dX_findReached_126 5 rfl (by decide) (by decide) (fun _ => rfl) (fun y4 ey4 => ?_)
    replace hs := hs y4 ey4
    refine gx_goto C dX_findReached_129 108 rfl ?_
    exact gx_sub [1, 2, 3, 4, 5, 0] rfl hs
set_option maxHeartbeats 4000000 in
set_option maxRecDepth 100000 in
theorem mt_X_findReached (l : Launch) (dC : Nat → ClassId) (dI : Nat → Nat → Nat) (cI cZ : ClassId) (o : Nat → Nat) (W E : Nat) (v1 : Int32) (S : GS) (post : GS → Prop) (h : wp_X_findReached W E [v1] S post) : MetV l yX_findReached (Cond.code yX_findReached cX_findReached 6 none :: wsA) ({ frames := 3, cells := 0, slots := 0, locals := 63 }) (dC, dI) gx_cl [(cI, .int), (cZ, .boolean)] (xw cI cZ o W E) [.ref (o 0), .int v1] S post := by
  refine gx_metV (by decide) wsA_good (Nat.le_of_ble_eq_true rfl) ?_
  intro p e s m args below meth c A C hr hlocks
  refine h (vh_X_findReached o (GV p l e { frames := 3, cells := 0, slots := 0, locals := 63 } s m args below meth c (MQ below (va_Qv post (GB (xw cI cZ o W E) (dC, dI) gx_cl [(cI, .int), (cZ, .boolean)] A) A) args s 0 0 A) 6 (dC, dI) gx_cl A (xw cI cZ o W E))) (fun h S xs hs => ?_)
  unfold sp_X_findReached at hs
  split at hs
  · exact wk_X_findReached_0 C hr hlocks _ _ hs
  · exact wk_X_findReached_2 C hr hlocks _ _ _ hs
  · exact wk_X_findReached_31 C hr hlocks _ _ _ hs
  · exact wk_X_findReached_60 C hr hlocks _ _ _ hs
  · exact wk_X_findReached_108 C hr hlocks _ _ _ _ _ _ hs
  · exact hs.elim
/-- CountedObjects.compact()I: a step from head to head -/
def sp_X_compact (W E : Nat) (post : Int32 → GS → Prop) (V : Nat → GS → List Int32 → Prop) (h : Nat) (S : GS) (xs : List Int32) : Prop := match h, xs with
  | 0, [] => wp_X_moveTogether W E [] S (fun r2 S1 => post r2 S1)
  | _, _ => False
def wp_X_compact (W E : Nat) (xs : List Int32) (S : GS) (post : Int32 → GS → Prop) : Prop := ∀ V : Nat → GS → List Int32 → Prop, (∀ h S xs, sp_X_compact W E post V h S xs → V h S xs) → V 0 S xs
def vh_X_compact (o : Nat → Nat) (G : GS → Nat → List (Nat × Value) → List Value → Prop) (h : Nat) (S : GS) (xs : List Int32) : Prop := match h, xs with
  | 0, [] => G S 0 [(0, .ref (o 0))] []
  | _, _ => True
set_option maxHeartbeats 4000000 in
set_option maxRecDepth 100000 in
theorem wk_X_compact_0 {l : Launch} {dC : Nat → ClassId} {dI : Nat → Nat → Nat} {cI cZ : ClassId} {o : Nat → Nat} {W E : Nat} {p : Program} {e : Env} {s : State} {m : MethodId} {args : Array Value} {below : List Frame} {meth : Method} {c : Code} {A : Nat → Prop} {post : Int32 → GS → Prop} (C : GC p s m args c cX_compact 1 RX wsA (dC, dI) gx_cl [(cI, .int), (cZ, .boolean)] A) (hr : meth.sig.returnType = (some .int)) (hlocks : meth.locks = false) (S : GS) (hs : sp_X_compact W E post (vh_X_compact o (GV p l e { frames := 3, cells := 0, slots := 0, locals := 93 } s m args below meth c (MQ below (va_Qi post (GB (xw cI cZ o W E) (dC, dI) gx_cl [(cI, .int), (cZ, .boolean)] A) A) args s 0 0 A) 1 (dC, dI) gx_cl A (xw cI cZ o W E))) 0 S []) : GV p l e { frames := 3, cells := 0, slots := 0, locals := 93 } s m args below meth c (MQ below (va_Qi post (GB (xw cI cZ o W E) (dC, dI) gx_cl [(cI, .int), (cZ, .boolean)] A) A) args s 0 0 A) 1 (dC, dI) gx_cl A (xw cI cZ o W E) S 0 [(0, .ref (o 0))] [] := by
  refine gx_aload_n C dX_compact_0 0 rfl rfl ?_
  refine gx_calli (As := []) (rest := []) C (mt_X_moveTogether l dC dI cI cZ o W E _ _ hs) (gx_cwV C 0 ln_X_108 im_X_moveTogether se_X_moveTogether in_CountedObjects cd_X_moveTogether rfl rfl (by decide +kernel) ⟨Nat.le_of_ble_eq_true rfl, Nat.le_of_ble_eq_true rfl⟩) xo_this rfl (Nat.le_of_ble_eq_true rfl) dX_compact_1 (fun S1 => xw_ad _ S1) rfl (fun r2 S1 hs => ?_)
  exact gx_iret C hr hlocks dX_compact_4 hs
set_option maxHeartbeats 4000000 in
set_option maxRecDepth 100000 in
theorem mt_X_compact (l : Launch) (dC : Nat → ClassId) (dI : Nat → Nat → Nat) (cI cZ : ClassId) (o : Nat → Nat) (W E : Nat) (S : GS) (post : Int32 → GS → Prop) (h : wp_X_compact W E [] S post) : MetI l yX_compact (Cond.code yX_compact cX_compact 1 (some .int) :: wsA) ({ frames := 3, cells := 0, slots := 0, locals := 93 }) (dC, dI) gx_cl [(cI, .int), (cZ, .boolean)] (xw cI cZ o W E) [.ref (o 0)] S post := by
  refine gx_metI (by decide) wsA_good (Nat.le_of_ble_eq_true rfl) ?_
  intro p e s m args below meth c A C hr hlocks
  refine h (vh_X_compact o (GV p l e { frames := 3, cells := 0, slots := 0, locals := 93 } s m args below meth c (MQ below (va_Qi post (GB (xw cI cZ o W E) (dC, dI) gx_cl [(cI, .int), (cZ, .boolean)] A) A) args s 0 0 A) 1 (dC, dI) gx_cl A (xw cI cZ o W E))) (fun h S xs hs => ?_)
  unfold sp_X_compact at hs
  split at hs
  · exact wk_X_compact_0 C hr hlocks _ hs
  · exact hs.elim
/-- CountedObjects.exists(I)Z: a step from head to head -/
def sp_X_exists (W E : Nat) (post : Int32 → GS → Prop) (V : Nat → GS → List Int32 → Prop) (h : Nat) (S : GS) (xs : List Int32) : Prop := match h, xs with
  | 0, [v1] => wp_X_isObject W E [v1] S (fun r2 S1 => (narrow .boolean (.int r2) = .int r2 ∧ post r2 S1))
  | _, _ => False
def wp_X_exists (W E : Nat) (xs : List Int32) (S : GS) (post : Int32 → GS → Prop) : Prop := ∀ V : Nat → GS → List Int32 → Prop, (∀ h S xs, sp_X_exists W E post V h S xs → V h S xs) → V 0 S xs
def vh_X_exists (o : Nat → Nat) (G : GS → Nat → List (Nat × Value) → List Value → Prop) (h : Nat) (S : GS) (xs : List Int32) : Prop := match h, xs with
  | 0, [v1] => G S 0 [(0, .ref (o 0)), (1, .int v1)] []
  | _, _ => True
set_option maxHeartbeats 4000000 in
set_option maxRecDepth 100000 in
theorem wk_X_exists_0 {l : Launch} {dC : Nat → ClassId} {dI : Nat → Nat → Nat} {cI cZ : ClassId} {o : Nat → Nat} {W E : Nat} {p : Program} {e : Env} {s : State} {m : MethodId} {args : Array Value} {below : List Frame} {meth : Method} {c : Code} {A : Nat → Prop} {post : Int32 → GS → Prop} (C : GC p s m args c cX_exists 2 RX wsA (dC, dI) gx_cl [(cI, .int), (cZ, .boolean)] A) (hr : meth.sig.returnType = (some .boolean)) (hlocks : meth.locks = false) (S : GS) (v1 : Int32) (hs : sp_X_exists W E post (vh_X_exists o (GV p l e { frames := 2, cells := 0, slots := 0, locals := 42 } s m args below meth c (MQ below (va_Qi post (GB (xw cI cZ o W E) (dC, dI) gx_cl [(cI, .int), (cZ, .boolean)] A) A) args s 0 0 A) 2 (dC, dI) gx_cl A (xw cI cZ o W E))) 0 S [v1]) : GV p l e { frames := 2, cells := 0, slots := 0, locals := 42 } s m args below meth c (MQ below (va_Qi post (GB (xw cI cZ o W E) (dC, dI) gx_cl [(cI, .int), (cZ, .boolean)] A) A) args s 0 0 A) 2 (dC, dI) gx_cl A (xw cI cZ o W E) S 0 [(0, .ref (o 0)), (1, .int v1)] [] := by
  refine gx_aload_n C dX_exists_0 0 rfl rfl ?_
  refine gx_iload_n C dX_exists_1 1 rfl rfl ?_
  refine gx_calli (As := [.int v1]) (rest := []) C (mt_X_isObject l dC dI cI cZ o W E _ _ _ hs) (gx_cwV C 1 ln_X_87 im_X_isObject se_X_isObject in_CountedObjects cd_X_isObject rfl rfl (by decide +kernel) ⟨Nat.le_of_ble_eq_true rfl, Nat.le_of_ble_eq_true rfl⟩) xo_this rfl (Nat.le_of_ble_eq_true rfl) dX_exists_2 (fun S1 => xw_ad _ S1) rfl (fun r2 S1 hs => ?_)
  exact gx_zret C hr hlocks dX_exists_5 hs.2 hs.1
set_option maxHeartbeats 4000000 in
set_option maxRecDepth 100000 in
theorem mt_X_exists (l : Launch) (dC : Nat → ClassId) (dI : Nat → Nat → Nat) (cI cZ : ClassId) (o : Nat → Nat) (W E : Nat) (v1 : Int32) (S : GS) (post : Int32 → GS → Prop) (h : wp_X_exists W E [v1] S post) : MetI l yX_exists (Cond.code yX_exists cX_exists 2 (some .boolean) :: wsA) ({ frames := 2, cells := 0, slots := 0, locals := 42 }) (dC, dI) gx_cl [(cI, .int), (cZ, .boolean)] (xw cI cZ o W E) [.ref (o 0), .int v1] S post := by
  refine gx_metI (by decide) wsA_good (Nat.le_of_ble_eq_true rfl) ?_
  intro p e s m args below meth c A C hr hlocks
  refine h (vh_X_exists o (GV p l e { frames := 2, cells := 0, slots := 0, locals := 42 } s m args below meth c (MQ below (va_Qi post (GB (xw cI cZ o W E) (dC, dI) gx_cl [(cI, .int), (cZ, .boolean)] A) A) args s 0 0 A) 2 (dC, dI) gx_cl A (xw cI cZ o W E))) (fun h S xs hs => ?_)
  unfold sp_X_exists at hs
  split at hs
  · exact wk_X_exists_0 C hr hlocks _ _ hs
  · exact hs.elim
/-- CountedObjects.count(I)I: a step from head to head -/
def sp_X_count (W E : Nat) (post : Int32 → GS → Prop) (V : Nat → GS → List Int32 → Prop) (h : Nat) (S : GS) (xs : List Int32) : Prop := match h, xs with
  | 0, [v1] => wp_X_isObject W E [v1] S (fun r2 S1 => ((r2 = 0 → post 0 S1) ∧ (¬ r2 = 0 → (vp_in (v1 / 2) (E + 1) ∧ post (S1 2 (v1 / 2).toNatClampNeg) S1))))
  | _, _ => False
def wp_X_count (W E : Nat) (xs : List Int32) (S : GS) (post : Int32 → GS → Prop) : Prop := ∀ V : Nat → GS → List Int32 → Prop, (∀ h S xs, sp_X_count W E post V h S xs → V h S xs) → V 0 S xs
def vh_X_count (o : Nat → Nat) (G : GS → Nat → List (Nat × Value) → List Value → Prop) (h : Nat) (S : GS) (xs : List Int32) : Prop := match h, xs with
  | 0, [v1] => G S 0 [(0, .ref (o 0)), (1, .int v1)] []
  | _, _ => True
set_option maxHeartbeats 4000000 in
set_option maxRecDepth 100000 in
theorem wk_X_count_0 {l : Launch} {dC : Nat → ClassId} {dI : Nat → Nat → Nat} {cI cZ : ClassId} {o : Nat → Nat} {W E : Nat} {p : Program} {e : Env} {s : State} {m : MethodId} {args : Array Value} {below : List Frame} {meth : Method} {c : Code} {A : Nat → Prop} {post : Int32 → GS → Prop} (C : GC p s m args c cX_count 2 RX wsA (dC, dI) gx_cl [(cI, .int), (cZ, .boolean)] A) (hr : meth.sig.returnType = (some .int)) (hlocks : meth.locks = false) (S : GS) (v1 : Int32) (hs : sp_X_count W E post (vh_X_count o (GV p l e { frames := 2, cells := 0, slots := 0, locals := 42 } s m args below meth c (MQ below (va_Qi post (GB (xw cI cZ o W E) (dC, dI) gx_cl [(cI, .int), (cZ, .boolean)] A) A) args s 0 0 A) 2 (dC, dI) gx_cl A (xw cI cZ o W E))) 0 S [v1]) : GV p l e { frames := 2, cells := 0, slots := 0, locals := 42 } s m args below meth c (MQ below (va_Qi post (GB (xw cI cZ o W E) (dC, dI) gx_cl [(cI, .int), (cZ, .boolean)] A) A) args s 0 0 A) 2 (dC, dI) gx_cl A (xw cI cZ o W E) S 0 [(0, .ref (o 0)), (1, .int v1)] [] := by
  refine gx_aload_n C dX_count_0 0 rfl rfl ?_
  refine gx_iload_n C dX_count_1 1 rfl rfl ?_
  refine gx_calli (As := [.int v1]) (rest := []) C (mt_X_isObject l dC dI cI cZ o W E _ _ _ hs) (gx_cwV C 1 ln_X_87 im_X_isObject se_X_isObject in_CountedObjects cd_X_isObject rfl rfl (by decide +kernel) ⟨Nat.le_of_ble_eq_true rfl, Nat.le_of_ble_eq_true rfl⟩) xo_this rfl (Nat.le_of_ble_eq_true rfl) dX_count_2 (fun S1 => xw_ad _ S1) rfl (fun r2 S1 hs => ?_)
  obtain ⟨ht, hf⟩ := hs
  refine gx_if_eq C dX_count_5 19 rfl (fun hc => ?_) (fun hc => ?_)
  · have hs := ht hc
    refine gx_iconst (v := 0) C dX_count_19 (by decide) ?_
    exact gx_iret C hr hlocks dX_count_20 hs
  · have hs := hf hc
    refine gx_aload_n C dX_count_8 0 rfl rfl ?_
    refine gx_get C xo_this hi_X 2 (by decide) fl_X_25 rfl dX_count_9 ?_
    refine gx_iload_n C dX_count_12 1 rfl rfl ?_
    refine gx_iconst (v := 2) C dX_count_13 (by decide) ?_
    refine gx_idiv C dX_count_14 (by decide) ?_
    obtain ⟨hin, hs⟩ := hs
    refine gx_iald C xa_counts hin dX_count_15 ?_
    refine gx_goto C dX_count_16 20 rfl ?_
    exact gx_iret C hr hlocks dX_count_20 hs
set_option maxHeartbeats 4000000 in
set_option maxRecDepth 100000 in
theorem mt_X_count (l : Launch) (dC : Nat → ClassId) (dI : Nat → Nat → Nat) (cI cZ : ClassId) (o : Nat → Nat) (W E : Nat) (v1 : Int32) (S : GS) (post : Int32 → GS → Prop) (h : wp_X_count W E [v1] S post) : MetI l yX_count (Cond.code yX_count cX_count 2 (some .int) :: wsA) ({ frames := 2, cells := 0, slots := 0, locals := 42 }) (dC, dI) gx_cl [(cI, .int), (cZ, .boolean)] (xw cI cZ o W E) [.ref (o 0), .int v1] S post := by
  refine gx_metI (by decide) wsA_good (Nat.le_of_ble_eq_true rfl) ?_
  intro p e s m args below meth c A C hr hlocks
  refine h (vh_X_count o (GV p l e { frames := 2, cells := 0, slots := 0, locals := 42 } s m args below meth c (MQ below (va_Qi post (GB (xw cI cZ o W E) (dC, dI) gx_cl [(cI, .int), (cZ, .boolean)] A) A) args s 0 0 A) 2 (dC, dI) gx_cl A (xw cI cZ o W E))) (fun h S xs hs => ?_)
  unfold sp_X_count at hs
  split at hs
  · exact wk_X_count_0 C hr hlocks _ _ hs
  · exact hs.elim
/-- CountedObjects.address(I)I: a step from head to head -/
def sp_X_address (W E : Nat) (post : Int32 → GS → Prop) (V : Nat → GS → List Int32 → Prop) (h : Nat) (S : GS) (xs : List Int32) : Prop := match h, xs with
  | 0, [v1] => wp_X_isObject W E [v1] S (fun r2 S1 => ((r2 = 0 → post (-1) S1) ∧ (¬ r2 = 0 → (vp_in (v1 / 2) (E + 1) ∧ post (S1 1 (v1 / 2).toNatClampNeg) S1))))
  | _, _ => False
def wp_X_address (W E : Nat) (xs : List Int32) (S : GS) (post : Int32 → GS → Prop) : Prop := ∀ V : Nat → GS → List Int32 → Prop, (∀ h S xs, sp_X_address W E post V h S xs → V h S xs) → V 0 S xs
def vh_X_address (o : Nat → Nat) (G : GS → Nat → List (Nat × Value) → List Value → Prop) (h : Nat) (S : GS) (xs : List Int32) : Prop := match h, xs with
  | 0, [v1] => G S 0 [(0, .ref (o 0)), (1, .int v1)] []
  | _, _ => True
set_option maxHeartbeats 4000000 in
set_option maxRecDepth 100000 in
theorem wk_X_address_0 {l : Launch} {dC : Nat → ClassId} {dI : Nat → Nat → Nat} {cI cZ : ClassId} {o : Nat → Nat} {W E : Nat} {p : Program} {e : Env} {s : State} {m : MethodId} {args : Array Value} {below : List Frame} {meth : Method} {c : Code} {A : Nat → Prop} {post : Int32 → GS → Prop} (C : GC p s m args c cX_address 2 RX wsA (dC, dI) gx_cl [(cI, .int), (cZ, .boolean)] A) (hr : meth.sig.returnType = (some .int)) (hlocks : meth.locks = false) (S : GS) (v1 : Int32) (hs : sp_X_address W E post (vh_X_address o (GV p l e { frames := 2, cells := 0, slots := 0, locals := 42 } s m args below meth c (MQ below (va_Qi post (GB (xw cI cZ o W E) (dC, dI) gx_cl [(cI, .int), (cZ, .boolean)] A) A) args s 0 0 A) 2 (dC, dI) gx_cl A (xw cI cZ o W E))) 0 S [v1]) : GV p l e { frames := 2, cells := 0, slots := 0, locals := 42 } s m args below meth c (MQ below (va_Qi post (GB (xw cI cZ o W E) (dC, dI) gx_cl [(cI, .int), (cZ, .boolean)] A) A) args s 0 0 A) 2 (dC, dI) gx_cl A (xw cI cZ o W E) S 0 [(0, .ref (o 0)), (1, .int v1)] [] := by
  refine gx_aload_n C dX_address_0 0 rfl rfl ?_
  refine gx_iload_n C dX_address_1 1 rfl rfl ?_
  refine gx_calli (As := [.int v1]) (rest := []) C (mt_X_isObject l dC dI cI cZ o W E _ _ _ hs) (gx_cwV C 1 ln_X_87 im_X_isObject se_X_isObject in_CountedObjects cd_X_isObject rfl rfl (by decide +kernel) ⟨Nat.le_of_ble_eq_true rfl, Nat.le_of_ble_eq_true rfl⟩) xo_this rfl (Nat.le_of_ble_eq_true rfl) dX_address_2 (fun S1 => xw_ad _ S1) rfl (fun r2 S1 hs => ?_)
  obtain ⟨ht, hf⟩ := hs
  refine gx_if_eq C dX_address_5 19 rfl (fun hc => ?_) (fun hc => ?_)
  · have hs := ht hc
    refine gx_iconst (v := (-1)) C dX_address_19 (by decide) ?_
    exact gx_iret C hr hlocks dX_address_20 hs
  · have hs := hf hc
    refine gx_aload_n C dX_address_8 0 rfl rfl ?_
    refine gx_get C xo_this hi_X 1 (by decide) fl_X_22 rfl dX_address_9 ?_
    refine gx_iload_n C dX_address_12 1 rfl rfl ?_
    refine gx_iconst (v := 2) C dX_address_13 (by decide) ?_
    refine gx_idiv C dX_address_14 (by decide) ?_
    obtain ⟨hin, hs⟩ := hs
    refine gx_iald C xa_addresses hin dX_address_15 ?_
    refine gx_goto C dX_address_16 20 rfl ?_
    exact gx_iret C hr hlocks dX_address_20 hs
set_option maxHeartbeats 4000000 in
set_option maxRecDepth 100000 in
theorem mt_X_address (l : Launch) (dC : Nat → ClassId) (dI : Nat → Nat → Nat) (cI cZ : ClassId) (o : Nat → Nat) (W E : Nat) (v1 : Int32) (S : GS) (post : Int32 → GS → Prop) (h : wp_X_address W E [v1] S post) : MetI l yX_address (Cond.code yX_address cX_address 2 (some .int) :: wsA) ({ frames := 2, cells := 0, slots := 0, locals := 42 }) (dC, dI) gx_cl [(cI, .int), (cZ, .boolean)] (xw cI cZ o W E) [.ref (o 0), .int v1] S post := by
  refine gx_metI (by decide) wsA_good (Nat.le_of_ble_eq_true rfl) ?_
  intro p e s m args below meth c A C hr hlocks
  refine h (vh_X_address o (GV p l e { frames := 2, cells := 0, slots := 0, locals := 42 } s m args below meth c (MQ below (va_Qi post (GB (xw cI cZ o W E) (dC, dI) gx_cl [(cI, .int), (cZ, .boolean)] A) A) args s 0 0 A) 2 (dC, dI) gx_cl A (xw cI cZ o W E))) (fun h S xs hs => ?_)
  unfold sp_X_address at hs
  split at hs
  · exact wk_X_address_0 C hr hlocks _ _ hs
  · exact hs.elim
/-- CountedObjects.free()I: a step from head to head -/
def sp_X_free (W E : Nat) (post : Int32 → GS → Prop) (V : Nat → GS → List Int32 → Prop) (h : Nat) (S : GS) (xs : List Int32) : Prop := match h, xs with
  | 0, [] => wp_F_allWords W E [] S (fun r2 S1 => post r2 S1)
  | _, _ => False
def wp_X_free (W E : Nat) (xs : List Int32) (S : GS) (post : Int32 → GS → Prop) : Prop := ∀ V : Nat → GS → List Int32 → Prop, (∀ h S xs, sp_X_free W E post V h S xs → V h S xs) → V 0 S xs
def vh_X_free (o : Nat → Nat) (G : GS → Nat → List (Nat × Value) → List Value → Prop) (h : Nat) (S : GS) (xs : List Int32) : Prop := match h, xs with
  | 0, [] => G S 0 [(0, .ref (o 0))] []
  | _, _ => True
set_option maxHeartbeats 4000000 in
set_option maxRecDepth 100000 in
theorem wk_X_free_0 {l : Launch} {dC : Nat → ClassId} {dI : Nat → Nat → Nat} {cI cZ : ClassId} {o : Nat → Nat} {W E : Nat} {p : Program} {e : Env} {s : State} {m : MethodId} {args : Array Value} {below : List Frame} {meth : Method} {c : Code} {A : Nat → Prop} {post : Int32 → GS → Prop} (C : GC p s m args c cX_free 1 RX wsA (dC, dI) gx_cl [(cI, .int), (cZ, .boolean)] A) (hr : meth.sig.returnType = (some .int)) (hlocks : meth.locks = false) (S : GS) (hs : sp_X_free W E post (vh_X_free o (GV p l e { frames := 1, cells := 0, slots := 0, locals := 22 } s m args below meth c (MQ below (va_Qi post (GB (xw cI cZ o W E) (dC, dI) gx_cl [(cI, .int), (cZ, .boolean)] A) A) args s 0 0 A) 1 (dC, dI) gx_cl A (xw cI cZ o W E))) 0 S []) : GV p l e { frames := 1, cells := 0, slots := 0, locals := 22 } s m args below meth c (MQ below (va_Qi post (GB (xw cI cZ o W E) (dC, dI) gx_cl [(cI, .int), (cZ, .boolean)] A) A) args s 0 0 A) 1 (dC, dI) gx_cl A (xw cI cZ o W E) S 0 [(0, .ref (o 0))] [] := by
  refine gx_aload_n C dX_free_0 0 rfl rfl ?_
  refine gx_get C xo_this hi_X 4 (by decide) fl_X_36 rfl dX_free_1 ?_
  refine gx_calli (As := []) (rest := []) C (mt_F_allWords l dC dI cI cZ o W E _ _ hs) (gx_cwV C 0 ln_X_117 im_F_allWords se_F_allWords in_CountedObjects_FreeChunks cd_F_allWords rfl rfl (by decide +kernel) ⟨Nat.le_of_ble_eq_true rfl, Nat.le_of_ble_eq_true rfl⟩) xo_fc rfl (Nat.le_of_ble_eq_true rfl) dX_free_4 (fun S1 => xw_ad _ S1) rfl (fun r2 S1 hs => ?_)
  exact gx_iret C hr hlocks dX_free_7 hs
set_option maxHeartbeats 4000000 in
set_option maxRecDepth 100000 in
theorem mt_X_free (l : Launch) (dC : Nat → ClassId) (dI : Nat → Nat → Nat) (cI cZ : ClassId) (o : Nat → Nat) (W E : Nat) (S : GS) (post : Int32 → GS → Prop) (h : wp_X_free W E [] S post) : MetI l yX_free (Cond.code yX_free cX_free 1 (some .int) :: wsA) ({ frames := 1, cells := 0, slots := 0, locals := 22 }) (dC, dI) gx_cl [(cI, .int), (cZ, .boolean)] (xw cI cZ o W E) [.ref (o 0)] S post := by
  refine gx_metI (by decide) wsA_good (Nat.le_of_ble_eq_true rfl) ?_
  intro p e s m args below meth c A C hr hlocks
  refine h (vh_X_free o (GV p l e { frames := 1, cells := 0, slots := 0, locals := 22 } s m args below meth c (MQ below (va_Qi post (GB (xw cI cZ o W E) (dC, dI) gx_cl [(cI, .int), (cZ, .boolean)] A) A) args s 0 0 A) 1 (dC, dI) gx_cl A (xw cI cZ o W E))) (fun h S xs hs => ?_)
  unfold sp_X_free at hs
  split at hs
  · exact wk_X_free_0 C hr hlocks _ hs
  · exact hs.elim
/-- CountedObjects.objects()I: a step from head to head -/
def sp_X_objects (W E : Nat) (post : Int32 → GS → Prop) (V : Nat → GS → List Int32 → Prop) (h : Nat) (S : GS) (xs : List Int32) : Prop := match h, xs with
  | 0, [] => ∀ y1 : Int32, y1 = 0 → ∀ y2 : Int32, y2 = 1 → V 4 S [y1, y2]
  | 4, [v1, v2] => (((nI (E + 1)) ≤ v2 → post v1 S) ∧ (¬ (nI (E + 1)) ≤ v2 → wp_X_isUsed W E [v2] S (fun r2 S1 => ((r2 = 0 → (∀ y3 : Int32, y3 = v2 + 1 → V 4 S1 [v1, y3])) ∧ (¬ r2 = 0 → (∀ y4 : Int32, y4 = v1 + 1 → (∀ y5 : Int32, y5 = v2 + 1 → V 4 S1 [y4, y5])))))))
  | _, _ => False
def wp_X_objects (W E : Nat) (xs : List Int32) (S : GS) (post : Int32 → GS → Prop) : Prop := ∀ V : Nat → GS → List Int32 → Prop, (∀ h S xs, sp_X_objects W E post V h S xs → V h S xs) → V 0 S xs
def vh_X_objects (o : Nat → Nat) (G : GS → Nat → List (Nat × Value) → List Value → Prop) (h : Nat) (S : GS) (xs : List Int32) : Prop := match h, xs with
  | 0, [] => G S 0 [(0, .ref (o 0))] []
  | 4, [v1, v2] => G S 4 [(0, .ref (o 0)), (1, .int v1), (2, .int v2)] []
  | _, _ => True
set_option maxHeartbeats 4000000 in
set_option maxRecDepth 100000 in
theorem wk_X_objects_0 {l : Launch} {dC : Nat → ClassId} {dI : Nat → Nat → Nat} {cI cZ : ClassId} {o : Nat → Nat} {W E : Nat} {p : Program} {e : Env} {s : State} {m : MethodId} {args : Array Value} {below : List Frame} {meth : Method} {c : Code} {A : Nat → Prop} {post : Int32 → GS → Prop} (C : GC p s m args c cX_objects 3 RX wsA (dC, dI) gx_cl [(cI, .int), (cZ, .boolean)] A) (hr : meth.sig.returnType = (some .int)) (hlocks : meth.locks = false) (S : GS) (hs : sp_X_objects W E post (vh_X_objects o (GV p l e { frames := 1, cells := 0, slots := 0, locals := 21 } s m args below meth c (MQ below (va_Qi post (GB (xw cI cZ o W E) (dC, dI) gx_cl [(cI, .int), (cZ, .boolean)] A) A) args s 0 0 A) 3 (dC, dI) gx_cl A (xw cI cZ o W E))) 0 S []) : GV p l e { frames := 1, cells := 0, slots := 0, locals := 21 } s m args below meth c (MQ below (va_Qi post (GB (xw cI cZ o W E) (dC, dI) gx_cl [(cI, .int), (cZ, .boolean)] A) A) args s 0 0 A) 3 (dC, dI) gx_cl A (xw cI cZ o W E) S 0 [(0, .ref (o 0))] [] := by
  refine gx_iconst (v := 0) C dX_objects_0 (by decide) ?_
  refine gx_top (fun y1 ey1 => ?_)
  replace hs := hs y1 ey1
  refine gx_istore_n (L' := [(1, .int y1), (0, .ref (o 0))]) C dX_objects_1 rfl (by decide) rfl ?_
  refine gx_iconst (v := 1) C dX_objects_2 (by decide) ?_
  refine gx_top (fun y2 ey2 => ?_)
  replace hs := hs y2 ey2
  refine gx_istore_n (L' := [(2, .int y2), (1, .int y1), (0, .ref (o 0))]) C dX_objects_3 rfl (by decide) rfl ?_
  exact gx_sub [2, 1, 0] rfl hs
set_option maxHeartbeats 4000000 in
set_option maxRecDepth 100000 in
theorem wk_X_objects_4 {l : Launch} {dC : Nat → ClassId} {dI : Nat → Nat → Nat} {cI cZ : ClassId} {o : Nat → Nat} {W E : Nat} {p : Program} {e : Env} {s : State} {m : MethodId} {args : Array Value} {below : List Frame} {meth : Method} {c : Code} {A : Nat → Prop} {post : Int32 → GS → Prop} (C : GC p s m args c cX_objects 3 RX wsA (dC, dI) gx_cl [(cI, .int), (cZ, .boolean)] A) (hr : meth.sig.returnType = (some .int)) (hlocks : meth.locks = false) (S : GS) (v1 : Int32) (v2 : Int32) (hs : sp_X_objects W E post (vh_X_objects o (GV p l e { frames := 1, cells := 0, slots := 0, locals := 21 } s m args below meth c (MQ below (va_Qi post (GB (xw cI cZ o W E) (dC, dI) gx_cl [(cI, .int), (cZ, .boolean)] A) A) args s 0 0 A) 3 (dC, dI) gx_cl A (xw cI cZ o W E))) 4 S [v1, v2]) : GV p l e { frames := 1, cells := 0, slots := 0, locals := 21 } s m args below meth c (MQ below (va_Qi post (GB (xw cI cZ o W E) (dC, dI) gx_cl [(cI, .int), (cZ, .boolean)] A) A) args s 0 0 A) 3 (dC, dI) gx_cl A (xw cI cZ o W E) S 4 [(0, .ref (o 0)), (1, .int v1), (2, .int v2)] [] := by
  refine gx_iload_n C dX_objects_4 2 rfl rfl ?_
  refine gx_aload_n C dX_objects_5 0 rfl rfl ?_
  refine gx_get C xo_this hi_X 1 (by decide) fl_X_22 rfl dX_objects_6 ?_
  refine gx_alen C xa_addresses dX_objects_9 ?_
  obtain ⟨ht, hf⟩ := hs
  refine gx_icmp_ge C dX_objects_10 30 rfl (fun hc => ?_) (fun hc => ?_)
  · have hs := ht hc
    refine gx_iload_n C dX_objects_30 1 rfl rfl ?_
    exact gx_iret C hr hlocks dX_objects_31 hs
  · have hs := hf hc
    refine gx_aload_n C dX_objects_13 0 rfl rfl ?_
    refine gx_iload_n C dX_objects_14 2 rfl rfl ?_
    refine gx_calli (As := [.int v2]) (rest := []) C (mt_X_isUsed l dC dI cI cZ o W E _ _ _ hs) (gx_cwV C 1 ln_X_120 im_X_isUsed se_X_isUsed in_CountedObjects cd_X_isUsed rfl rfl (by decide +kernel) ⟨Nat.le_of_ble_eq_true rfl, Nat.le_of_ble_eq_true rfl⟩) xo_this rfl (Nat.le_of_ble_eq_true rfl) dX_objects_15 (fun S1 => xw_ad _ S1) rfl (fun r2 S1 hs => ?_)
    obtain ⟨ht, hf⟩ := hs
    refine gx_if_eq C dX_objects_18 24 rfl (fun hc => ?_) (fun hc => ?_)
    · have hs := ht hc
      refine gx_iinc (v0 := 1) (f := fun v => [(2, .int v), (0, .ref (o 0)), (1, .int v1)]) C dX_objects_24 2 rfl (by decide) (by decide) (fun _ => rfl) (fun y3 ey3 => ?_)
      replace hs := hs y3 ey3
      refine gx_goto C dX_objects_27 4 rfl ?_
      exact gx_sub [1, 2, 0] rfl hs
    · have hs := hf hc
      refine gx_iinc (v0 := 1) (f := fun v => [(1, .int v), (0, .ref (o 0)), (2, .int v2)]) C dX_objects_21 1 rfl (by decide) (by decide) (fun _ => rfl) (fun y4 ey4 => ?_)
      replace hs := hs y4 ey4
      refine gx_iinc (v0 := 1) (f := fun v => [(2, .int v), (1, .int y4), (0, .ref (o 0))]) C dX_objects_24 2 rfl (by decide) (by decide) (fun _ => rfl) (fun y5 ey5 => ?_)
      replace hs := hs y5 ey5
      refine gx_goto C dX_objects_27 4 rfl ?_
      exact gx_sub [2, 1, 0] rfl hs
set_option maxHeartbeats 4000000 in
set_option maxRecDepth 100000 in
theorem mt_X_objects (l : Launch) (dC : Nat → ClassId) (dI : Nat → Nat → Nat) (cI cZ : ClassId) (o : Nat → Nat) (W E : Nat) (S : GS) (post : Int32 → GS → Prop) (h : wp_X_objects W E [] S post) : MetI l yX_objects (Cond.code yX_objects cX_objects 3 (some .int) :: wsA) ({ frames := 1, cells := 0, slots := 0, locals := 21 }) (dC, dI) gx_cl [(cI, .int), (cZ, .boolean)] (xw cI cZ o W E) [.ref (o 0)] S post := by
  refine gx_metI (by decide) wsA_good (Nat.le_of_ble_eq_true rfl) ?_
  intro p e s m args below meth c A C hr hlocks
  refine h (vh_X_objects o (GV p l e { frames := 1, cells := 0, slots := 0, locals := 21 } s m args below meth c (MQ below (va_Qi post (GB (xw cI cZ o W E) (dC, dI) gx_cl [(cI, .int), (cZ, .boolean)] A) A) args s 0 0 A) 3 (dC, dI) gx_cl A (xw cI cZ o W E))) (fun h S xs hs => ?_)
  unfold sp_X_objects at hs
  split at hs
  · exact wk_X_objects_0 C hr hlocks _ hs
  · exact wk_X_objects_4 C hr hlocks _ _ _ hs
  · exact hs.elim
end
section
theorem dM_init_0 : decode cM_init 0 = .ok (.aload_n 0, 1) := by decide +kernel
theorem dM_init_1 : decode cM_init 1 = .ok (.invokespecial 1, 3) := by decide +kernel
theorem dM_init_4 : decode cM_init 4 = .ok (.aload_n 0, 1) := by decide +kernel
theorem dM_init_5 : decode cM_init 5 = .ok (.bipush 8, 2) := by decide +kernel
theorem dM_init_7 : decode cM_init 7 = .ok (.newarray .int, 2) := by decide +kernel
theorem dM_init_9 : decode cM_init 9 = .ok (.putfield 7, 3) := by decide +kernel
theorem dM_init_12 : decode cM_init 12 = .ok (.aload_n 0, 1) := by decide +kernel
theorem dM_init_13 : decode cM_init 13 = .ok (.bipush 41, 2) := by decide +kernel
theorem dM_init_15 : decode cM_init 15 = .ok (.newarray .boolean, 2) := by decide +kernel
theorem dM_init_17 : decode cM_init 17 = .ok (.putfield 13, 3) := by decide +kernel
theorem dM_init_20 : decode cM_init 20 = .ok (.aload_n 0, 1) := by decide +kernel
theorem dM_init_21 : decode cM_init 21 = .ok (.bipush 41, 2) := by decide +kernel
theorem dM_init_23 : decode cM_init 23 = .ok (.newarray .int, 2) := by decide +kernel
theorem dM_init_25 : decode cM_init 25 = .ok (.putfield 17, 3) := by decide +kernel
theorem dM_init_28 : decode cM_init 28 = .ok (.aload_n 0, 1) := by decide +kernel
theorem dM_init_29 : decode cM_init 29 = .ok (.bipush 41, 2) := by decide +kernel
theorem dM_init_31 : decode cM_init 31 = .ok (.newarray .int, 2) := by decide +kernel
theorem dM_init_33 : decode cM_init 33 = .ok (.putfield 20, 3) := by decide +kernel
theorem dM_init_36 : decode cM_init 36 = .ok (.aload_n 0, 1) := by decide +kernel
theorem dM_init_37 : decode cM_init 37 = .ok (.bipush 41, 2) := by decide +kernel
theorem dM_init_39 : decode cM_init 39 = .ok (.newarray .int, 2) := by decide +kernel
theorem dM_init_41 : decode cM_init 41 = .ok (.putfield 23, 3) := by decide +kernel
theorem dM_init_44 : decode cM_init 44 = .ok (.aload_n 0, 1) := by decide +kernel
theorem dM_init_45 : decode cM_init 45 = .ok (.sipush 400, 3) := by decide +kernel
theorem dM_init_48 : decode cM_init 48 = .ok (.newarray .int, 2) := by decide +kernel
theorem dM_init_50 : decode cM_init 50 = .ok (.putfield 26, 3) := by decide +kernel
theorem dM_init_53 : decode cM_init 53 = .ok (.aload_n 0, 1) := by decide +kernel
theorem dM_init_54 : decode cM_init 54 = .ok (.sipush 400, 3) := by decide +kernel
theorem dM_init_57 : decode cM_init 57 = .ok (.newarray .int, 2) := by decide +kernel
theorem dM_init_59 : decode cM_init 59 = .ok (.putfield 29, 3) := by decide +kernel
theorem dM_init_62 : decode cM_init 62 = .ok (.aload_n 0, 1) := by decide +kernel
theorem dM_init_63 : decode cM_init 63 = .ok (.sipush 400, 3) := by decide +kernel
theorem dM_init_66 : decode cM_init 66 = .ok (.newarray .int, 2) := by decide +kernel
theorem dM_init_68 : decode cM_init 68 = .ok (.putfield 32, 3) := by decide +kernel
theorem dM_init_71 : decode cM_init 71 = .ok (.aload_n 0, 1) := by decide +kernel
theorem dM_init_72 : decode cM_init 72 = .ok (.sipush 400, 3) := by decide +kernel
theorem dM_init_75 : decode cM_init 75 = .ok (.newarray .int, 2) := by decide +kernel
theorem dM_init_77 : decode cM_init 77 = .ok (.putfield 35, 3) := by decide +kernel
theorem dM_init_80 : decode cM_init 80 = .ok (.aload_n 0, 1) := by decide +kernel
theorem dM_init_81 : decode cM_init 81 = .ok (.bipush 41, 2) := by decide +kernel
theorem dM_init_83 : decode cM_init 83 = .ok (.newarray .int, 2) := by decide +kernel
theorem dM_init_85 : decode cM_init 85 = .ok (.putfield 38, 3) := by decide +kernel
theorem dM_init_88 : decode cM_init 88 = .ok (.aload_n 0, 1) := by decide +kernel
theorem dM_init_89 : decode cM_init 89 = .ok (.bipush 41, 2) := by decide +kernel
theorem dM_init_91 : decode cM_init 91 = .ok (.newarray .int, 2) := by decide +kernel
theorem dM_init_93 : decode cM_init 93 = .ok (.putfield 41, 3) := by decide +kernel
theorem dM_init_96 : decode cM_init 96 = .ok (.aload_n 0, 1) := by decide +kernel
theorem dM_init_97 : decode cM_init 97 = .ok (.bipush 41, 2) := by decide +kernel
theorem dM_init_99 : decode cM_init 99 = .ok (.newarray .boolean, 2) := by decide +kernel
theorem dM_init_101 : decode cM_init 101 = .ok (.putfield 44, 3) := by decide +kernel
theorem dM_init_104 : decode cM_init 104 = .ok (.aload_n 0, 1) := by decide +kernel
theorem dM_init_105 : decode cM_init 105 = .ok (.iload_n 1, 1) := by decide +kernel
theorem dM_init_106 : decode cM_init 106 = .ok (.bipush 16, 2) := by decide +kernel
theorem dM_init_108 : decode cM_init 108 = .ok (.if_icmp .ge 8, 3) := by decide +kernel
theorem dM_init_111 : decode cM_init 111 = .ok (.bipush 16, 2) := by decide +kernel
theorem dM_init_113 : decode cM_init 113 = .ok (.goto 17, 3) := by decide +kernel
theorem dM_init_116 : decode cM_init 116 = .ok (.iload_n 1, 1) := by decide +kernel
theorem dM_init_117 : decode cM_init 117 = .ok (.sipush 400, 3) := by decide +kernel
theorem dM_init_120 : decode cM_init 120 = .ok (.if_icmp .le 9, 3) := by decide +kernel
theorem dM_init_123 : decode cM_init 123 = .ok (.sipush 400, 3) := by decide +kernel
theorem dM_init_126 : decode cM_init 126 = .ok (.goto 4, 3) := by decide +kernel
theorem dM_init_129 : decode cM_init 129 = .ok (.iload_n 1, 1) := by decide +kernel
theorem dM_init_130 : decode cM_init 130 = .ok (.putfield 47, 3) := by decide +kernel
theorem dM_init_133 : decode cM_init 133 = .ok (.aload_n 0, 1) := by decide +kernel
theorem dM_init_134 : decode cM_init 134 = .ok (.iload_n 2, 1) := by decide +kernel
theorem dM_init_135 : decode cM_init 135 = .ok (.iconst 2, 1) := by decide +kernel
theorem dM_init_136 : decode cM_init 136 = .ok (.if_icmp .ge 7, 3) := by decide +kernel
theorem dM_init_139 : decode cM_init 139 = .ok (.iconst 2, 1) := by decide +kernel
theorem dM_init_140 : decode cM_init 140 = .ok (.goto 15, 3) := by decide +kernel
theorem dM_init_143 : decode cM_init 143 = .ok (.iload_n 2, 1) := by decide +kernel
theorem dM_init_144 : decode cM_init 144 = .ok (.bipush 40, 2) := by decide +kernel
theorem dM_init_146 : decode cM_init 146 = .ok (.if_icmp .le 8, 3) := by decide +kernel
theorem dM_init_149 : decode cM_init 149 = .ok (.bipush 40, 2) := by decide +kernel
theorem dM_init_151 : decode cM_init 151 = .ok (.goto 4, 3) := by decide +kernel
theorem dM_init_154 : decode cM_init 154 = .ok (.iload_n 2, 1) := by decide +kernel
theorem dM_init_155 : decode cM_init 155 = .ok (.putfield 51, 3) := by decide +kernel
theorem dM_init_158 : decode cM_init 158 = .ok (.aload_n 0, 1) := by decide +kernel
theorem dM_init_159 : decode cM_init 159 = .ok (.iconst 0, 1) := by decide +kernel
theorem dM_init_160 : decode cM_init 160 = .ok (.aload_n 0, 1) := by decide +kernel
theorem dM_init_161 : decode cM_init 161 = .ok (.getfield 47, 3) := by decide +kernel
theorem dM_init_164 : decode cM_init 164 = .ok (.invokevirtual 54, 3) := by decide +kernel
theorem dM_init_167 : decode cM_init 167 = .ok (.return_, 1) := by decide +kernel
theorem dM_thrown_0 : decode cM_thrown 0 = .ok (.aload_n 0, 1) := by decide +kernel
theorem dM_thrown_1 : decode cM_thrown 1 = .ok (.getfield 58, 3) := by decide +kernel
theorem dM_thrown_4 : decode cM_thrown 4 = .ok (.ireturn, 1) := by decide +kernel
theorem dM_leads_0 : decode cM_leads 0 = .ok (.iload_n 0, 1) := by decide +kernel
theorem dM_leads_1 : decode cM_leads 1 = .ok (.ifCond .eq 13, 3) := by decide +kernel
theorem dM_leads_4 : decode cM_leads 4 = .ok (.iload_n 0, 1) := by decide +kernel
theorem dM_leads_5 : decode cM_leads 5 = .ok (.iconst 1, 1) := by decide +kernel
theorem dM_leads_6 : decode cM_leads 6 = .ok (.iand, 1) := by decide +kernel
theorem dM_leads_7 : decode cM_leads 7 = .ok (.ifCond .ne 7, 3) := by decide +kernel
theorem dM_leads_10 : decode cM_leads 10 = .ok (.iconst 1, 1) := by decide +kernel
theorem dM_leads_11 : decode cM_leads 11 = .ok (.goto 4, 3) := by decide +kernel
theorem dM_leads_14 : decode cM_leads 14 = .ok (.iconst 0, 1) := by decide +kernel
theorem dM_leads_15 : decode cM_leads 15 = .ok (.ireturn, 1) := by decide +kernel
theorem dM_isObject_0 : decode cM_isObject 0 = .ok (.iload_n 1, 1) := by decide +kernel
theorem dM_isObject_1 : decode cM_isObject 1 = .ok (.ifCond .le 35, 3) := by decide +kernel
theorem dM_isObject_4 : decode cM_isObject 4 = .ok (.iload_n 1, 1) := by decide +kernel
theorem dM_isObject_5 : decode cM_isObject 5 = .ok (.iconst 2, 1) := by decide +kernel
theorem dM_isObject_6 : decode cM_isObject 6 = .ok (.aload_n 0, 1) := by decide +kernel
theorem dM_isObject_7 : decode cM_isObject 7 = .ok (.getfield 51, 3) := by decide +kernel
theorem dM_isObject_10 : decode cM_isObject 10 = .ok (.imul, 1) := by decide +kernel
theorem dM_isObject_11 : decode cM_isObject 11 = .ok (.if_icmp .gt 25, 3) := by decide +kernel
theorem dM_isObject_14 : decode cM_isObject 14 = .ok (.iload_n 1, 1) := by decide +kernel
theorem dM_isObject_15 : decode cM_isObject 15 = .ok (.invokestatic 61, 3) := by decide +kernel
theorem dM_isObject_18 : decode cM_isObject 18 = .ok (.ifCond .eq 18, 3) := by decide +kernel
theorem dM_isObject_21 : decode cM_isObject 21 = .ok (.aload_n 0, 1) := by decide +kernel
theorem dM_isObject_22 : decode cM_isObject 22 = .ok (.getfield 13, 3) := by decide +kernel
theorem dM_isObject_25 : decode cM_isObject 25 = .ok (.iload_n 1, 1) := by decide +kernel
theorem dM_isObject_26 : decode cM_isObject 26 = .ok (.iconst 2, 1) := by decide +kernel
theorem dM_isObject_27 : decode cM_isObject 27 = .ok (.idiv, 1) := by decide +kernel
theorem dM_isObject_28 : decode cM_isObject 28 = .ok (.baload, 1) := by decide +kernel
theorem dM_isObject_29 : decode cM_isObject 29 = .ok (.ifCond .eq 7, 3) := by decide +kernel
theorem dM_isObject_32 : decode cM_isObject 32 = .ok (.iconst 1, 1) := by decide +kernel
theorem dM_isObject_33 : decode cM_isObject 33 = .ok (.goto 4, 3) := by decide +kernel
theorem dM_isObject_36 : decode cM_isObject 36 = .ok (.iconst 0, 1) := by decide +kernel
theorem dM_isObject_37 : decode cM_isObject 37 = .ok (.ireturn, 1) := by decide +kernel
theorem dM_isValue_0 : decode cM_isValue 0 = .ok (.iload_n 1, 1) := by decide +kernel
theorem dM_isValue_1 : decode cM_isValue 1 = .ok (.invokestatic 61, 3) := by decide +kernel
theorem dM_isValue_4 : decode cM_isValue 4 = .ok (.ifCond .eq 11, 3) := by decide +kernel
theorem dM_isValue_7 : decode cM_isValue 7 = .ok (.aload_n 0, 1) := by decide +kernel
theorem dM_isValue_8 : decode cM_isValue 8 = .ok (.iload_n 1, 1) := by decide +kernel
theorem dM_isValue_9 : decode cM_isValue 9 = .ok (.invokevirtual 65, 3) := by decide +kernel
theorem dM_isValue_12 : decode cM_isValue 12 = .ok (.ifCond .eq 7, 3) := by decide +kernel
theorem dM_isValue_15 : decode cM_isValue 15 = .ok (.iconst 1, 1) := by decide +kernel
theorem dM_isValue_16 : decode cM_isValue 16 = .ok (.goto 4, 3) := by decide +kernel
theorem dM_isValue_19 : decode cM_isValue 19 = .ok (.iconst 0, 1) := by decide +kernel
theorem dM_isValue_20 : decode cM_isValue 20 = .ok (.ireturn, 1) := by decide +kernel
theorem dM_isRegister_0 : decode cM_isRegister 0 = .ok (.iload_n 0, 1) := by decide +kernel
theorem dM_isRegister_1 : decode cM_isRegister 1 = .ok (.ifCond .lt 13, 3) := by decide +kernel
theorem dM_isRegister_4 : decode cM_isRegister 4 = .ok (.iload_n 0, 1) := by decide +kernel
theorem dM_isRegister_5 : decode cM_isRegister 5 = .ok (.bipush 8, 2) := by decide +kernel
theorem dM_isRegister_7 : decode cM_isRegister 7 = .ok (.if_icmp .ge 7, 3) := by decide +kernel
theorem dM_isRegister_10 : decode cM_isRegister 10 = .ok (.iconst 1, 1) := by decide +kernel
theorem dM_isRegister_11 : decode cM_isRegister 11 = .ok (.goto 4, 3) := by decide +kernel
theorem dM_isRegister_14 : decode cM_isRegister 14 = .ok (.iconst 0, 1) := by decide +kernel
theorem dM_isRegister_15 : decode cM_isRegister 15 = .ok (.ireturn, 1) := by decide +kernel
theorem dM_give_0 : decode cM_give 0 = .ok (.aload_n 0, 1) := by decide +kernel
theorem dM_give_1 : decode cM_give 1 = .ok (.getfield 29, 3) := by decide +kernel
theorem dM_give_4 : decode cM_give 4 = .ok (.aload_n 0, 1) := by decide +kernel
theorem dM_give_5 : decode cM_give 5 = .ok (.getfield 68, 3) := by decide +kernel
theorem dM_give_8 : decode cM_give 8 = .ok (.iload_n 1, 1) := by decide +kernel
theorem dM_give_9 : decode cM_give 9 = .ok (.iastore, 1) := by decide +kernel
theorem dM_give_10 : decode cM_give 10 = .ok (.aload_n 0, 1) := by decide +kernel
theorem dM_give_11 : decode cM_give 11 = .ok (.getfield 32, 3) := by decide +kernel
theorem dM_give_14 : decode cM_give 14 = .ok (.aload_n 0, 1) := by decide +kernel
theorem dM_give_15 : decode cM_give 15 = .ok (.getfield 68, 3) := by decide +kernel
theorem dM_give_18 : decode cM_give 18 = .ok (.iload_n 2, 1) := by decide +kernel
theorem dM_give_19 : decode cM_give 19 = .ok (.iastore, 1) := by decide +kernel
theorem dM_give_20 : decode cM_give 20 = .ok (.aload_n 0, 1) := by decide +kernel
theorem dM_give_21 : decode cM_give 21 = .ok (.getfield 35, 3) := by decide +kernel
theorem dM_give_24 : decode cM_give 24 = .ok (.aload_n 0, 1) := by decide +kernel
theorem dM_give_25 : decode cM_give 25 = .ok (.getfield 68, 3) := by decide +kernel
theorem dM_give_28 : decode cM_give 28 = .ok (.aload_n 0, 1) := by decide +kernel
theorem dM_give_29 : decode cM_give 29 = .ok (.getfield 71, 3) := by decide +kernel
theorem dM_give_32 : decode cM_give 32 = .ok (.iastore, 1) := by decide +kernel
theorem dM_give_33 : decode cM_give 33 = .ok (.aload_n 0, 1) := by decide +kernel
theorem dM_give_34 : decode cM_give 34 = .ok (.dup, 1) := by decide +kernel
theorem dM_give_35 : decode cM_give 35 = .ok (.getfield 71, 3) := by decide +kernel
theorem dM_give_38 : decode cM_give 38 = .ok (.iconst 1, 1) := by decide +kernel
theorem dM_give_39 : decode cM_give 39 = .ok (.iadd, 1) := by decide +kernel
theorem dM_give_40 : decode cM_give 40 = .ok (.putfield 71, 3) := by decide +kernel
theorem dM_give_43 : decode cM_give 43 = .ok (.aload_n 0, 1) := by decide +kernel
theorem dM_give_44 : decode cM_give 44 = .ok (.dup, 1) := by decide +kernel
theorem dM_give_45 : decode cM_give 45 = .ok (.getfield 68, 3) := by decide +kernel
theorem dM_give_48 : decode cM_give 48 = .ok (.iconst 1, 1) := by decide +kernel
theorem dM_give_49 : decode cM_give 49 = .ok (.iadd, 1) := by decide +kernel
theorem dM_give_50 : decode cM_give 50 = .ok (.putfield 68, 3) := by decide +kernel
theorem dM_give_53 : decode cM_give 53 = .ok (.return_, 1) := by decide +kernel
theorem dM_freeWords_0 : decode cM_freeWords 0 = .ok (.iconst 0, 1) := by decide +kernel
theorem dM_freeWords_1 : decode cM_freeWords 1 = .ok (.istore_n 1, 1) := by decide +kernel
theorem dM_freeWords_2 : decode cM_freeWords 2 = .ok (.iconst 0, 1) := by decide +kernel
theorem dM_freeWords_3 : decode cM_freeWords 3 = .ok (.istore_n 2, 1) := by decide +kernel
theorem dM_freeWords_4 : decode cM_freeWords 4 = .ok (.iload_n 2, 1) := by decide +kernel
theorem dM_freeWords_5 : decode cM_freeWords 5 = .ok (.aload_n 0, 1) := by decide +kernel
theorem dM_freeWords_6 : decode cM_freeWords 6 = .ok (.getfield 68, 3) := by decide +kernel
theorem dM_freeWords_9 : decode cM_freeWords 9 = .ok (.if_icmp .ge 18, 3) := by decide +kernel
theorem dM_freeWords_12 : decode cM_freeWords 12 = .ok (.iload_n 1, 1) := by decide +kernel
theorem dM_freeWords_13 : decode cM_freeWords 13 = .ok (.aload_n 0, 1) := by decide +kernel
theorem dM_freeWords_14 : decode cM_freeWords 14 = .ok (.getfield 32, 3) := by decide +kernel
theorem dM_freeWords_17 : decode cM_freeWords 17 = .ok (.iload_n 2, 1) := by decide +kernel
theorem dM_freeWords_18 : decode cM_freeWords 18 = .ok (.iaload, 1) := by decide +kernel
theorem dM_freeWords_19 : decode cM_freeWords 19 = .ok (.iadd, 1) := by decide +kernel
theorem dM_freeWords_20 : decode cM_freeWords 20 = .ok (.istore_n 1, 1) := by decide +kernel
theorem dM_freeWords_21 : decode cM_freeWords 21 = .ok (.iinc 2 1, 3) := by decide +kernel
theorem dM_freeWords_24 : decode cM_freeWords 24 = .ok (.goto (-20), 3) := by decide +kernel
theorem dM_freeWords_27 : decode cM_freeWords 27 = .ok (.iload_n 1, 1) := by decide +kernel
theorem dM_freeWords_28 : decode cM_freeWords 28 = .ok (.ireturn, 1) := by decide +kernel
theorem dM_fitting_0 : decode cM_fitting 0 = .ok (.iconst (-1), 1) := by decide +kernel
theorem dM_fitting_1 : decode cM_fitting 1 = .ok (.istore_n 2, 1) := by decide +kernel
theorem dM_fitting_2 : decode cM_fitting 2 = .ok (.iconst 0, 1) := by decide +kernel
theorem dM_fitting_3 : decode cM_fitting 3 = .ok (.istore_n 3, 1) := by decide +kernel
theorem dM_fitting_4 : decode cM_fitting 4 = .ok (.iload_n 3, 1) := by decide +kernel
theorem dM_fitting_5 : decode cM_fitting 5 = .ok (.aload_n 0, 1) := by decide +kernel
theorem dM_fitting_6 : decode cM_fitting 6 = .ok (.getfield 68, 3) := by decide +kernel
theorem dM_fitting_9 : decode cM_fitting 9 = .ok (.if_icmp .ge 82, 3) := by decide +kernel
theorem dM_fitting_12 : decode cM_fitting 12 = .ok (.aload_n 0, 1) := by decide +kernel
theorem dM_fitting_13 : decode cM_fitting 13 = .ok (.getfield 32, 3) := by decide +kernel
theorem dM_fitting_16 : decode cM_fitting 16 = .ok (.iload_n 3, 1) := by decide +kernel
theorem dM_fitting_17 : decode cM_fitting 17 = .ok (.iaload, 1) := by decide +kernel
theorem dM_fitting_18 : decode cM_fitting 18 = .ok (.iload_n 1, 1) := by decide +kernel
theorem dM_fitting_19 : decode cM_fitting 19 = .ok (.if_icmp .lt 7, 3) := by decide +kernel
theorem dM_fitting_22 : decode cM_fitting 22 = .ok (.iconst 1, 1) := by decide +kernel
theorem dM_fitting_23 : decode cM_fitting 23 = .ok (.goto 4, 3) := by decide +kernel
theorem dM_fitting_26 : decode cM_fitting 26 = .ok (.iconst 0, 1) := by decide +kernel
theorem dM_fitting_27 : decode cM_fitting 27 = .ok (.istore 4, 2) := by decide +kernel
theorem dM_fitting_29 : decode cM_fitting 29 = .ok (.iload 4, 2) := by decide +kernel
theorem dM_fitting_31 : decode cM_fitting 31 = .ok (.ifCond .eq 54, 3) := by decide +kernel
theorem dM_fitting_34 : decode cM_fitting 34 = .ok (.iload_n 2, 1) := by decide +kernel
theorem dM_fitting_35 : decode cM_fitting 35 = .ok (.ifCond .lt 48, 3) := by decide +kernel
theorem dM_fitting_38 : decode cM_fitting 38 = .ok (.aload_n 0, 1) := by decide +kernel
theorem dM_fitting_39 : decode cM_fitting 39 = .ok (.getfield 32, 3) := by decide +kernel
theorem dM_fitting_42 : decode cM_fitting 42 = .ok (.iload_n 3, 1) := by decide +kernel
theorem dM_fitting_43 : decode cM_fitting 43 = .ok (.iaload, 1) := by decide +kernel
theorem dM_fitting_44 : decode cM_fitting 44 = .ok (.aload_n 0, 1) := by decide +kernel
theorem dM_fitting_45 : decode cM_fitting 45 = .ok (.getfield 32, 3) := by decide +kernel
theorem dM_fitting_48 : decode cM_fitting 48 = .ok (.iload_n 2, 1) := by decide +kernel
theorem dM_fitting_49 : decode cM_fitting 49 = .ok (.iaload, 1) := by decide +kernel
theorem dM_fitting_50 : decode cM_fitting 50 = .ok (.if_icmp .lt 33, 3) := by decide +kernel
theorem dM_fitting_53 : decode cM_fitting 53 = .ok (.aload_n 0, 1) := by decide +kernel
theorem dM_fitting_54 : decode cM_fitting 54 = .ok (.getfield 32, 3) := by decide +kernel
theorem dM_fitting_57 : decode cM_fitting 57 = .ok (.iload_n 3, 1) := by decide +kernel
theorem dM_fitting_58 : decode cM_fitting 58 = .ok (.iaload, 1) := by decide +kernel
theorem dM_fitting_59 : decode cM_fitting 59 = .ok (.aload_n 0, 1) := by decide +kernel
theorem dM_fitting_60 : decode cM_fitting 60 = .ok (.getfield 32, 3) := by decide +kernel
theorem dM_fitting_63 : decode cM_fitting 63 = .ok (.iload_n 2, 1) := by decide +kernel
theorem dM_fitting_64 : decode cM_fitting 64 = .ok (.iaload, 1) := by decide +kernel
theorem dM_fitting_65 : decode cM_fitting 65 = .ok (.if_icmp .ne 20, 3) := by decide +kernel
theorem dM_fitting_68 : decode cM_fitting 68 = .ok (.aload_n 0, 1) := by decide +kernel
theorem dM_fitting_69 : decode cM_fitting 69 = .ok (.getfield 35, 3) := by decide +kernel
theorem dM_fitting_72 : decode cM_fitting 72 = .ok (.iload_n 3, 1) := by decide +kernel
theorem dM_fitting_73 : decode cM_fitting 73 = .ok (.iaload, 1) := by decide +kernel
theorem dM_fitting_74 : decode cM_fitting 74 = .ok (.aload_n 0, 1) := by decide +kernel
theorem dM_fitting_75 : decode cM_fitting 75 = .ok (.getfield 35, 3) := by decide +kernel
theorem dM_fitting_78 : decode cM_fitting 78 = .ok (.iload_n 2, 1) := by decide +kernel
theorem dM_fitting_79 : decode cM_fitting 79 = .ok (.iaload, 1) := by decide +kernel
theorem dM_fitting_80 : decode cM_fitting 80 = .ok (.if_icmp .le 5, 3) := by decide +kernel
theorem dM_fitting_83 : decode cM_fitting 83 = .ok (.iload_n 3, 1) := by decide +kernel
theorem dM_fitting_84 : decode cM_fitting 84 = .ok (.istore_n 2, 1) := by decide +kernel
theorem dM_fitting_85 : decode cM_fitting 85 = .ok (.iinc 3 1, 3) := by decide +kernel
theorem dM_fitting_88 : decode cM_fitting 88 = .ok (.goto (-84), 3) := by decide +kernel
theorem dM_fitting_91 : decode cM_fitting 91 = .ok (.iload_n 2, 1) := by decide +kernel
theorem dM_fitting_92 : decode cM_fitting 92 = .ok (.ireturn, 1) := by decide +kernel
theorem dM_pack_0 : decode cM_pack 0 = .ok (.iconst 0, 1) := by decide +kernel
theorem dM_pack_1 : decode cM_pack 1 = .ok (.istore_n 1, 1) := by decide +kernel
theorem dM_pack_2 : decode cM_pack 2 = .ok (.iconst 0, 1) := by decide +kernel
theorem dM_pack_3 : decode cM_pack 3 = .ok (.istore_n 2, 1) := by decide +kernel
theorem dM_pack_4 : decode cM_pack 4 = .ok (.iconst 1, 1) := by decide +kernel
theorem dM_pack_5 : decode cM_pack 5 = .ok (.istore_n 3, 1) := by decide +kernel
theorem dM_pack_6 : decode cM_pack 6 = .ok (.iload_n 3, 1) := by decide +kernel
theorem dM_pack_7 : decode cM_pack 7 = .ok (.ifCond .eq 171, 3) := by decide +kernel
theorem dM_pack_10 : decode cM_pack 10 = .ok (.iconst 0, 1) := by decide +kernel
theorem dM_pack_11 : decode cM_pack 11 = .ok (.istore 4, 2) := by decide +kernel
theorem dM_pack_13 : decode cM_pack 13 = .ok (.iconst 1, 1) := by decide +kernel
theorem dM_pack_14 : decode cM_pack 14 = .ok (.istore 5, 2) := by decide +kernel
theorem dM_pack_16 : decode cM_pack 16 = .ok (.iload 5, 2) := by decide +kernel
theorem dM_pack_18 : decode cM_pack 18 = .ok (.aload_n 0, 1) := by decide +kernel
theorem dM_pack_19 : decode cM_pack 19 = .ok (.getfield 51, 3) := by decide +kernel
theorem dM_pack_22 : decode cM_pack 22 = .ok (.if_icmp .gt 56, 3) := by decide +kernel
theorem dM_pack_25 : decode cM_pack 25 = .ok (.aload_n 0, 1) := by decide +kernel
theorem dM_pack_26 : decode cM_pack 26 = .ok (.getfield 13, 3) := by decide +kernel
theorem dM_pack_29 : decode cM_pack 29 = .ok (.iload 5, 2) := by decide +kernel
theorem dM_pack_31 : decode cM_pack 31 = .ok (.baload, 1) := by decide +kernel
theorem dM_pack_32 : decode cM_pack 32 = .ok (.ifCond .eq 40, 3) := by decide +kernel
theorem dM_pack_35 : decode cM_pack 35 = .ok (.aload_n 0, 1) := by decide +kernel
theorem dM_pack_36 : decode cM_pack 36 = .ok (.getfield 17, 3) := by decide +kernel
theorem dM_pack_39 : decode cM_pack 39 = .ok (.iload 5, 2) := by decide +kernel
theorem dM_pack_41 : decode cM_pack 41 = .ok (.iaload, 1) := by decide +kernel
theorem dM_pack_42 : decode cM_pack 42 = .ok (.iload_n 2, 1) := by decide +kernel
theorem dM_pack_43 : decode cM_pack 43 = .ok (.if_icmp .lt 29, 3) := by decide +kernel
theorem dM_pack_46 : decode cM_pack 46 = .ok (.iload 4, 2) := by decide +kernel
theorem dM_pack_48 : decode cM_pack 48 = .ok (.ifCond .eq 20, 3) := by decide +kernel
theorem dM_pack_51 : decode cM_pack 51 = .ok (.aload_n 0, 1) := by decide +kernel
theorem dM_pack_52 : decode cM_pack 52 = .ok (.getfield 17, 3) := by decide +kernel
theorem dM_pack_55 : decode cM_pack 55 = .ok (.iload 5, 2) := by decide +kernel
theorem dM_pack_57 : decode cM_pack 57 = .ok (.iaload, 1) := by decide +kernel
theorem dM_pack_58 : decode cM_pack 58 = .ok (.aload_n 0, 1) := by decide +kernel
theorem dM_pack_59 : decode cM_pack 59 = .ok (.getfield 17, 3) := by decide +kernel
theorem dM_pack_62 : decode cM_pack 62 = .ok (.iload 4, 2) := by decide +kernel
theorem dM_pack_64 : decode cM_pack 64 = .ok (.iaload, 1) := by decide +kernel
theorem dM_pack_65 : decode cM_pack 65 = .ok (.if_icmp .ge 7, 3) := by decide +kernel
theorem dM_pack_68 : decode cM_pack 68 = .ok (.iload 5, 2) := by decide +kernel
theorem dM_pack_70 : decode cM_pack 70 = .ok (.istore 4, 2) := by decide +kernel
theorem dM_pack_72 : decode cM_pack 72 = .ok (.iinc 5 1, 3) := by decide +kernel
theorem dM_pack_75 : decode cM_pack 75 = .ok (.goto (-59), 3) := by decide +kernel
theorem dM_pack_78 : decode cM_pack 78 = .ok (.iload 4, 2) := by decide +kernel
theorem dM_pack_80 : decode cM_pack 80 = .ok (.ifCond .le 7, 3) := by decide +kernel
theorem dM_pack_83 : decode cM_pack 83 = .ok (.iconst 1, 1) := by decide +kernel
theorem dM_pack_84 : decode cM_pack 84 = .ok (.goto 4, 3) := by decide +kernel
theorem dM_pack_87 : decode cM_pack 87 = .ok (.iconst 0, 1) := by decide +kernel
theorem dM_pack_88 : decode cM_pack 88 = .ok (.istore_n 3, 1) := by decide +kernel
theorem dM_pack_89 : decode cM_pack 89 = .ok (.iload_n 3, 1) := by decide +kernel
theorem dM_pack_90 : decode cM_pack 90 = .ok (.ifCond .eq 85, 3) := by decide +kernel
theorem dM_pack_93 : decode cM_pack 93 = .ok (.aload_n 0, 1) := by decide +kernel
theorem dM_pack_94 : decode cM_pack 94 = .ok (.getfield 17, 3) := by decide +kernel
theorem dM_pack_97 : decode cM_pack 97 = .ok (.iload 4, 2) := by decide +kernel
theorem dM_pack_99 : decode cM_pack 99 = .ok (.iaload, 1) := by decide +kernel
theorem dM_pack_100 : decode cM_pack 100 = .ok (.istore 5, 2) := by decide +kernel
theorem dM_pack_102 : decode cM_pack 102 = .ok (.aload_n 0, 1) := by decide +kernel
theorem dM_pack_103 : decode cM_pack 103 = .ok (.getfield 20, 3) := by decide +kernel
theorem dM_pack_106 : decode cM_pack 106 = .ok (.iload 4, 2) := by decide +kernel
theorem dM_pack_108 : decode cM_pack 108 = .ok (.iaload, 1) := by decide +kernel
theorem dM_pack_109 : decode cM_pack 109 = .ok (.iconst 2, 1) := by decide +kernel
theorem dM_pack_110 : decode cM_pack 110 = .ok (.iadd, 1) := by decide +kernel
theorem dM_pack_111 : decode cM_pack 111 = .ok (.istore 6, 2) := by decide +kernel
theorem dM_pack_113 : decode cM_pack 113 = .ok (.iconst 0, 1) := by decide +kernel
theorem dM_pack_114 : decode cM_pack 114 = .ok (.istore 7, 2) := by decide +kernel
theorem dM_pack_116 : decode cM_pack 116 = .ok (.iload 7, 2) := by decide +kernel
theorem dM_pack_118 : decode cM_pack 118 = .ok (.iload 6, 2) := by decide +kernel
theorem dM_pack_120 : decode cM_pack 120 = .ok (.if_icmp .ge 28, 3) := by decide +kernel
theorem dM_pack_123 : decode cM_pack 123 = .ok (.aload_n 0, 1) := by decide +kernel
theorem dM_pack_124 : decode cM_pack 124 = .ok (.getfield 26, 3) := by decide +kernel
theorem dM_pack_127 : decode cM_pack 127 = .ok (.iload_n 2, 1) := by decide +kernel
theorem dM_pack_128 : decode cM_pack 128 = .ok (.iload 7, 2) := by decide +kernel
theorem dM_pack_130 : decode cM_pack 130 = .ok (.iadd, 1) := by decide +kernel
theorem dM_pack_131 : decode cM_pack 131 = .ok (.aload_n 0, 1) := by decide +kernel
theorem dM_pack_132 : decode cM_pack 132 = .ok (.getfield 26, 3) := by decide +kernel
theorem dM_pack_135 : decode cM_pack 135 = .ok (.iload 5, 2) := by decide +kernel
theorem dM_pack_137 : decode cM_pack 137 = .ok (.iload 7, 2) := by decide +kernel
theorem dM_pack_139 : decode cM_pack 139 = .ok (.iadd, 1) := by decide +kernel
theorem dM_pack_140 : decode cM_pack 140 = .ok (.iaload, 1) := by decide +kernel
theorem dM_pack_141 : decode cM_pack 141 = .ok (.iastore, 1) := by decide +kernel
theorem dM_pack_142 : decode cM_pack 142 = .ok (.iinc 7 1, 3) := by decide +kernel
theorem dM_pack_145 : decode cM_pack 145 = .ok (.goto (-29), 3) := by decide +kernel
theorem dM_pack_148 : decode cM_pack 148 = .ok (.iload 5, 2) := by decide +kernel
theorem dM_pack_150 : decode cM_pack 150 = .ok (.iload_n 2, 1) := by decide +kernel
theorem dM_pack_151 : decode cM_pack 151 = .ok (.if_icmp .eq 9, 3) := by decide +kernel
theorem dM_pack_154 : decode cM_pack 154 = .ok (.iload_n 1, 1) := by decide +kernel
theorem dM_pack_155 : decode cM_pack 155 = .ok (.iconst 1, 1) := by decide +kernel
theorem dM_pack_156 : decode cM_pack 156 = .ok (.iadd, 1) := by decide +kernel
theorem dM_pack_157 : decode cM_pack 157 = .ok (.goto 4, 3) := by decide +kernel
theorem dM_pack_160 : decode cM_pack 160 = .ok (.iload_n 1, 1) := by decide +kernel
theorem dM_pack_161 : decode cM_pack 161 = .ok (.istore_n 1, 1) := by decide +kernel
theorem dM_pack_162 : decode cM_pack 162 = .ok (.aload_n 0, 1) := by decide +kernel
theorem dM_pack_163 : decode cM_pack 163 = .ok (.getfield 17, 3) := by decide +kernel
theorem dM_pack_166 : decode cM_pack 166 = .ok (.iload 4, 2) := by decide +kernel
theorem dM_pack_168 : decode cM_pack 168 = .ok (.iload_n 2, 1) := by decide +kernel
theorem dM_pack_169 : decode cM_pack 169 = .ok (.iastore, 1) := by decide +kernel
theorem dM_pack_170 : decode cM_pack 170 = .ok (.iload_n 2, 1) := by decide +kernel
theorem dM_pack_171 : decode cM_pack 171 = .ok (.iload 6, 2) := by decide +kernel
theorem dM_pack_173 : decode cM_pack 173 = .ok (.iadd, 1) := by decide +kernel
theorem dM_pack_174 : decode cM_pack 174 = .ok (.istore_n 2, 1) := by decide +kernel
theorem dM_pack_175 : decode cM_pack 175 = .ok (.goto (-169), 3) := by decide +kernel
theorem dM_pack_178 : decode cM_pack 178 = .ok (.aload_n 0, 1) := by decide +kernel
theorem dM_pack_179 : decode cM_pack 179 = .ok (.iconst 0, 1) := by decide +kernel
theorem dM_pack_180 : decode cM_pack 180 = .ok (.putfield 68, 3) := by decide +kernel
theorem dM_pack_183 : decode cM_pack 183 = .ok (.iload_n 2, 1) := by decide +kernel
theorem dM_pack_184 : decode cM_pack 184 = .ok (.aload_n 0, 1) := by decide +kernel
theorem dM_pack_185 : decode cM_pack 185 = .ok (.getfield 47, 3) := by decide +kernel
theorem dM_pack_188 : decode cM_pack 188 = .ok (.if_icmp .ge 14, 3) := by decide +kernel
theorem dM_pack_191 : decode cM_pack 191 = .ok (.aload_n 0, 1) := by decide +kernel
theorem dM_pack_192 : decode cM_pack 192 = .ok (.iload_n 2, 1) := by decide +kernel
theorem dM_pack_193 : decode cM_pack 193 = .ok (.aload_n 0, 1) := by decide +kernel
theorem dM_pack_194 : decode cM_pack 194 = .ok (.getfield 47, 3) := by decide +kernel
theorem dM_pack_197 : decode cM_pack 197 = .ok (.iload_n 2, 1) := by decide +kernel
theorem dM_pack_198 : decode cM_pack 198 = .ok (.isub, 1) := by decide +kernel
theorem dM_pack_199 : decode cM_pack 199 = .ok (.invokevirtual 54, 3) := by decide +kernel
theorem dM_pack_202 : decode cM_pack 202 = .ok (.iload_n 1, 1) := by decide +kernel
theorem dM_pack_203 : decode cM_pack 203 = .ok (.ireturn, 1) := by decide +kernel
theorem dM_place_0 : decode cM_place 0 = .ok (.aload_n 0, 1) := by decide +kernel
theorem dM_place_1 : decode cM_place 1 = .ok (.iload_n 1, 1) := by decide +kernel
theorem dM_place_2 : decode cM_place 2 = .ok (.invokevirtual 74, 3) := by decide +kernel
theorem dM_place_5 : decode cM_place 5 = .ok (.istore_n 2, 1) := by decide +kernel
theorem dM_place_6 : decode cM_place 6 = .ok (.iload_n 2, 1) := by decide +kernel
theorem dM_place_7 : decode cM_place 7 = .ok (.ifCond .ge 22, 3) := by decide +kernel
theorem dM_place_10 : decode cM_place 10 = .ok (.aload_n 0, 1) := by decide +kernel
theorem dM_place_11 : decode cM_place 11 = .ok (.invokevirtual 78, 3) := by decide +kernel
theorem dM_place_14 : decode cM_place 14 = .ok (.iload_n 1, 1) := by decide +kernel
theorem dM_place_15 : decode cM_place 15 = .ok (.if_icmp .lt 14, 3) := by decide +kernel
theorem dM_place_18 : decode cM_place 18 = .ok (.aload_n 0, 1) := by decide +kernel
theorem dM_place_19 : decode cM_place 19 = .ok (.invokevirtual 82, 3) := by decide +kernel
theorem dM_place_22 : decode cM_place 22 = .ok (.istore_n 3, 1) := by decide +kernel
theorem dM_place_23 : decode cM_place 23 = .ok (.aload_n 0, 1) := by decide +kernel
theorem dM_place_24 : decode cM_place 24 = .ok (.iload_n 1, 1) := by decide +kernel
theorem dM_place_25 : decode cM_place 25 = .ok (.invokevirtual 74, 3) := by decide +kernel
theorem dM_place_28 : decode cM_place 28 = .ok (.istore_n 2, 1) := by decide +kernel
theorem dM_place_29 : decode cM_place 29 = .ok (.iload_n 2, 1) := by decide +kernel
theorem dM_place_30 : decode cM_place 30 = .ok (.ifCond .ge 5, 3) := by decide +kernel
theorem dM_place_33 : decode cM_place 33 = .ok (.iconst (-1), 1) := by decide +kernel
theorem dM_place_34 : decode cM_place 34 = .ok (.ireturn, 1) := by decide +kernel
theorem dM_place_35 : decode cM_place 35 = .ok (.aload_n 0, 1) := by decide +kernel
theorem dM_place_36 : decode cM_place 36 = .ok (.getfield 29, 3) := by decide +kernel
theorem dM_place_39 : decode cM_place 39 = .ok (.iload_n 2, 1) := by decide +kernel
theorem dM_place_40 : decode cM_place 40 = .ok (.iaload, 1) := by decide +kernel
theorem dM_place_41 : decode cM_place 41 = .ok (.istore_n 3, 1) := by decide +kernel
theorem dM_place_42 : decode cM_place 42 = .ok (.aload_n 0, 1) := by decide +kernel
theorem dM_place_43 : decode cM_place 43 = .ok (.getfield 32, 3) := by decide +kernel
theorem dM_place_46 : decode cM_place 46 = .ok (.iload_n 2, 1) := by decide +kernel
theorem dM_place_47 : decode cM_place 47 = .ok (.iaload, 1) := by decide +kernel
theorem dM_place_48 : decode cM_place 48 = .ok (.iload_n 1, 1) := by decide +kernel
theorem dM_place_49 : decode cM_place 49 = .ok (.isub, 1) := by decide +kernel
theorem dM_place_50 : decode cM_place 50 = .ok (.istore 4, 2) := by decide +kernel
theorem dM_place_52 : decode cM_place 52 = .ok (.aload_n 0, 1) := by decide +kernel
theorem dM_place_53 : decode cM_place 53 = .ok (.dup, 1) := by decide +kernel
theorem dM_place_54 : decode cM_place 54 = .ok (.getfield 68, 3) := by decide +kernel
theorem dM_place_57 : decode cM_place 57 = .ok (.iconst 1, 1) := by decide +kernel
theorem dM_place_58 : decode cM_place 58 = .ok (.isub, 1) := by decide +kernel
theorem dM_place_59 : decode cM_place 59 = .ok (.putfield 68, 3) := by decide +kernel
theorem dM_place_62 : decode cM_place 62 = .ok (.aload_n 0, 1) := by decide +kernel
theorem dM_place_63 : decode cM_place 63 = .ok (.getfield 29, 3) := by decide +kernel
theorem dM_place_66 : decode cM_place 66 = .ok (.iload_n 2, 1) := by decide +kernel
theorem dM_place_67 : decode cM_place 67 = .ok (.aload_n 0, 1) := by decide +kernel
theorem dM_place_68 : decode cM_place 68 = .ok (.getfield 29, 3) := by decide +kernel
theorem dM_place_71 : decode cM_place 71 = .ok (.aload_n 0, 1) := by decide +kernel
theorem dM_place_72 : decode cM_place 72 = .ok (.getfield 68, 3) := by decide +kernel
theorem dM_place_75 : decode cM_place 75 = .ok (.iaload, 1) := by decide +kernel
theorem dM_place_76 : decode cM_place 76 = .ok (.iastore, 1) := by decide +kernel
theorem dM_place_77 : decode cM_place 77 = .ok (.aload_n 0, 1) := by decide +kernel
theorem dM_place_78 : decode cM_place 78 = .ok (.getfield 32, 3) := by decide +kernel
theorem dM_place_81 : decode cM_place 81 = .ok (.iload_n 2, 1) := by decide +kernel
theorem dM_place_82 : decode cM_place 82 = .ok (.aload_n 0, 1) := by decide +kernel
theorem dM_place_83 : decode cM_place 83 = .ok (.getfield 32, 3) := by decide +kernel
theorem dM_place_86 : decode cM_place 86 = .ok (.aload_n 0, 1) := by decide +kernel
theorem dM_place_87 : decode cM_place 87 = .ok (.getfield 68, 3) := by decide +kernel
theorem dM_place_90 : decode cM_place 90 = .ok (.iaload, 1) := by decide +kernel
theorem dM_place_91 : decode cM_place 91 = .ok (.iastore, 1) := by decide +kernel
theorem dM_place_92 : decode cM_place 92 = .ok (.aload_n 0, 1) := by decide +kernel
theorem dM_place_93 : decode cM_place 93 = .ok (.getfield 35, 3) := by decide +kernel
theorem dM_place_96 : decode cM_place 96 = .ok (.iload_n 2, 1) := by decide +kernel
theorem dM_place_97 : decode cM_place 97 = .ok (.aload_n 0, 1) := by decide +kernel
theorem dM_place_98 : decode cM_place 98 = .ok (.getfield 35, 3) := by decide +kernel
theorem dM_place_101 : decode cM_place 101 = .ok (.aload_n 0, 1) := by decide +kernel
theorem dM_place_102 : decode cM_place 102 = .ok (.getfield 68, 3) := by decide +kernel
theorem dM_place_105 : decode cM_place 105 = .ok (.iaload, 1) := by decide +kernel
theorem dM_place_106 : decode cM_place 106 = .ok (.iastore, 1) := by decide +kernel
theorem dM_place_107 : decode cM_place 107 = .ok (.iload 4, 2) := by decide +kernel
theorem dM_place_109 : decode cM_place 109 = .ok (.ifCond .le 12, 3) := by decide +kernel
theorem dM_place_112 : decode cM_place 112 = .ok (.aload_n 0, 1) := by decide +kernel
theorem dM_place_113 : decode cM_place 113 = .ok (.iload_n 3, 1) := by decide +kernel
theorem dM_place_114 : decode cM_place 114 = .ok (.iload_n 1, 1) := by decide +kernel
theorem dM_place_115 : decode cM_place 115 = .ok (.iadd, 1) := by decide +kernel
theorem dM_place_116 : decode cM_place 116 = .ok (.iload 4, 2) := by decide +kernel
theorem dM_place_118 : decode cM_place 118 = .ok (.invokevirtual 54, 3) := by decide +kernel
theorem dM_place_121 : decode cM_place 121 = .ok (.iload_n 3, 1) := by decide +kernel
theorem dM_place_122 : decode cM_place 122 = .ok (.ireturn, 1) := by decide +kernel
theorem dM_comes_0 : decode cM_comes 0 = .ok (.iload_n 1, 1) := by decide +kernel
theorem dM_comes_1 : decode cM_comes 1 = .ok (.invokestatic 61, 3) := by decide +kernel
theorem dM_comes_4 : decode cM_comes 4 = .ok (.ifCond .eq 28, 3) := by decide +kernel
theorem dM_comes_7 : decode cM_comes 7 = .ok (.aload_n 0, 1) := by decide +kernel
theorem dM_comes_8 : decode cM_comes 8 = .ok (.getfield 23, 3) := by decide +kernel
theorem dM_comes_11 : decode cM_comes 11 = .ok (.iload_n 1, 1) := by decide +kernel
theorem dM_comes_12 : decode cM_comes 12 = .ok (.iconst 2, 1) := by decide +kernel
theorem dM_comes_13 : decode cM_comes 13 = .ok (.idiv, 1) := by decide +kernel
theorem dM_comes_14 : decode cM_comes 14 = .ok (.iaload, 1) := by decide +kernel
theorem dM_comes_15 : decode cM_comes 15 = .ok (.bipush 7, 2) := by decide +kernel
theorem dM_comes_17 : decode cM_comes 17 = .ok (.if_icmp .ge 15, 3) := by decide +kernel
theorem dM_comes_20 : decode cM_comes 20 = .ok (.aload_n 0, 1) := by decide +kernel
theorem dM_comes_21 : decode cM_comes 21 = .ok (.getfield 23, 3) := by decide +kernel
theorem dM_comes_24 : decode cM_comes 24 = .ok (.iload_n 1, 1) := by decide +kernel
theorem dM_comes_25 : decode cM_comes 25 = .ok (.iconst 2, 1) := by decide +kernel
theorem dM_comes_26 : decode cM_comes 26 = .ok (.idiv, 1) := by decide +kernel
theorem dM_comes_27 : decode cM_comes 27 = .ok (.dup2, 1) := by decide +kernel
theorem dM_comes_28 : decode cM_comes 28 = .ok (.iaload, 1) := by decide +kernel
theorem dM_comes_29 : decode cM_comes 29 = .ok (.iconst 1, 1) := by decide +kernel
theorem dM_comes_30 : decode cM_comes 30 = .ok (.iadd, 1) := by decide +kernel
theorem dM_comes_31 : decode cM_comes 31 = .ok (.iastore, 1) := by decide +kernel
theorem dM_comes_32 : decode cM_comes 32 = .ok (.return_, 1) := by decide +kernel
theorem dM_less_0 : decode cM_less 0 = .ok (.iload_n 1, 1) := by decide +kernel
theorem dM_less_1 : decode cM_less 1 = .ok (.invokestatic 61, 3) := by decide +kernel
theorem dM_less_4 : decode cM_less 4 = .ok (.ifCond .eq 71, 3) := by decide +kernel
theorem dM_less_7 : decode cM_less 7 = .ok (.aload_n 0, 1) := by decide +kernel
theorem dM_less_8 : decode cM_less 8 = .ok (.getfield 23, 3) := by decide +kernel
theorem dM_less_11 : decode cM_less 11 = .ok (.iload_n 1, 1) := by decide +kernel
theorem dM_less_12 : decode cM_less 12 = .ok (.iconst 2, 1) := by decide +kernel
theorem dM_less_13 : decode cM_less 13 = .ok (.idiv, 1) := by decide +kernel
theorem dM_less_14 : decode cM_less 14 = .ok (.iaload, 1) := by decide +kernel
theorem dM_less_15 : decode cM_less 15 = .ok (.bipush 7, 2) := by decide +kernel
theorem dM_less_17 : decode cM_less 17 = .ok (.if_icmp .ge 58, 3) := by decide +kernel
theorem dM_less_20 : decode cM_less 20 = .ok (.aload_n 0, 1) := by decide +kernel
theorem dM_less_21 : decode cM_less 21 = .ok (.getfield 23, 3) := by decide +kernel
theorem dM_less_24 : decode cM_less 24 = .ok (.iload_n 1, 1) := by decide +kernel
theorem dM_less_25 : decode cM_less 25 = .ok (.iconst 2, 1) := by decide +kernel
theorem dM_less_26 : decode cM_less 26 = .ok (.idiv, 1) := by decide +kernel
theorem dM_less_27 : decode cM_less 27 = .ok (.dup2, 1) := by decide +kernel
theorem dM_less_28 : decode cM_less 28 = .ok (.iaload, 1) := by decide +kernel
theorem dM_less_29 : decode cM_less 29 = .ok (.iconst 1, 1) := by decide +kernel
theorem dM_less_30 : decode cM_less 30 = .ok (.isub, 1) := by decide +kernel
theorem dM_less_31 : decode cM_less 31 = .ok (.iastore, 1) := by decide +kernel
theorem dM_less_32 : decode cM_less 32 = .ok (.aload_n 0, 1) := by decide +kernel
theorem dM_less_33 : decode cM_less 33 = .ok (.getfield 23, 3) := by decide +kernel
theorem dM_less_36 : decode cM_less 36 = .ok (.iload_n 1, 1) := by decide +kernel
theorem dM_less_37 : decode cM_less 37 = .ok (.iconst 2, 1) := by decide +kernel
theorem dM_less_38 : decode cM_less 38 = .ok (.idiv, 1) := by decide +kernel
theorem dM_less_39 : decode cM_less 39 = .ok (.iaload, 1) := by decide +kernel
theorem dM_less_40 : decode cM_less 40 = .ok (.ifCond .ne 35, 3) := by decide +kernel
theorem dM_less_43 : decode cM_less 43 = .ok (.aload_n 0, 1) := by decide +kernel
theorem dM_less_44 : decode cM_less 44 = .ok (.getfield 38, 3) := by decide +kernel
theorem dM_less_47 : decode cM_less 47 = .ok (.aload_n 0, 1) := by decide +kernel
theorem dM_less_48 : decode cM_less 48 = .ok (.getfield 85, 3) := by decide +kernel
theorem dM_less_51 : decode cM_less 51 = .ok (.iload_n 1, 1) := by decide +kernel
theorem dM_less_52 : decode cM_less 52 = .ok (.iconst 2, 1) := by decide +kernel
theorem dM_less_53 : decode cM_less 53 = .ok (.idiv, 1) := by decide +kernel
theorem dM_less_54 : decode cM_less 54 = .ok (.iastore, 1) := by decide +kernel
theorem dM_less_55 : decode cM_less 55 = .ok (.aload_n 0, 1) := by decide +kernel
theorem dM_less_56 : decode cM_less 56 = .ok (.getfield 41, 3) := by decide +kernel
theorem dM_less_59 : decode cM_less 59 = .ok (.aload_n 0, 1) := by decide +kernel
theorem dM_less_60 : decode cM_less 60 = .ok (.getfield 85, 3) := by decide +kernel
theorem dM_less_63 : decode cM_less 63 = .ok (.iconst 0, 1) := by decide +kernel
theorem dM_less_64 : decode cM_less 64 = .ok (.iastore, 1) := by decide +kernel
theorem dM_less_65 : decode cM_less 65 = .ok (.aload_n 0, 1) := by decide +kernel
theorem dM_less_66 : decode cM_less 66 = .ok (.dup, 1) := by decide +kernel
theorem dM_less_67 : decode cM_less 67 = .ok (.getfield 85, 3) := by decide +kernel
theorem dM_less_70 : decode cM_less 70 = .ok (.iconst 1, 1) := by decide +kernel
theorem dM_less_71 : decode cM_less 71 = .ok (.iadd, 1) := by decide +kernel
theorem dM_less_72 : decode cM_less 72 = .ok (.putfield 85, 3) := by decide +kernel
theorem dM_less_75 : decode cM_less 75 = .ok (.return_, 1) := by decide +kernel
theorem dM_takeAway_0 : decode cM_takeAway 0 = .ok (.aload_n 0, 1) := by decide +kernel
theorem dM_takeAway_1 : decode cM_takeAway 1 = .ok (.getfield 13, 3) := by decide +kernel
theorem dM_takeAway_4 : decode cM_takeAway 4 = .ok (.iload_n 1, 1) := by decide +kernel
theorem dM_takeAway_5 : decode cM_takeAway 5 = .ok (.iconst 0, 1) := by decide +kernel
theorem dM_takeAway_6 : decode cM_takeAway 6 = .ok (.bastore, 1) := by decide +kernel
theorem dM_takeAway_7 : decode cM_takeAway 7 = .ok (.aload_n 0, 1) := by decide +kernel
theorem dM_takeAway_8 : decode cM_takeAway 8 = .ok (.aload_n 0, 1) := by decide +kernel
theorem dM_takeAway_9 : decode cM_takeAway 9 = .ok (.getfield 17, 3) := by decide +kernel
theorem dM_takeAway_12 : decode cM_takeAway 12 = .ok (.iload_n 1, 1) := by decide +kernel
theorem dM_takeAway_13 : decode cM_takeAway 13 = .ok (.iaload, 1) := by decide +kernel
theorem dM_takeAway_14 : decode cM_takeAway 14 = .ok (.aload_n 0, 1) := by decide +kernel
theorem dM_takeAway_15 : decode cM_takeAway 15 = .ok (.getfield 20, 3) := by decide +kernel
theorem dM_takeAway_18 : decode cM_takeAway 18 = .ok (.iload_n 1, 1) := by decide +kernel
theorem dM_takeAway_19 : decode cM_takeAway 19 = .ok (.iaload, 1) := by decide +kernel
theorem dM_takeAway_20 : decode cM_takeAway 20 = .ok (.iconst 2, 1) := by decide +kernel
theorem dM_takeAway_21 : decode cM_takeAway 21 = .ok (.iadd, 1) := by decide +kernel
theorem dM_takeAway_22 : decode cM_takeAway 22 = .ok (.invokevirtual 54, 3) := by decide +kernel
theorem dM_takeAway_25 : decode cM_takeAway 25 = .ok (.return_, 1) := by decide +kernel
theorem dM_leaves_0 : decode cM_leaves 0 = .ok (.aload_n 0, 1) := by decide +kernel
theorem dM_leaves_1 : decode cM_leaves 1 = .ok (.iconst 0, 1) := by decide +kernel
theorem dM_leaves_2 : decode cM_leaves 2 = .ok (.putfield 85, 3) := by decide +kernel
theorem dM_leaves_5 : decode cM_leaves 5 = .ok (.aload_n 0, 1) := by decide +kernel
theorem dM_leaves_6 : decode cM_leaves 6 = .ok (.iload_n 1, 1) := by decide +kernel
theorem dM_leaves_7 : decode cM_leaves 7 = .ok (.invokevirtual 88, 3) := by decide +kernel
theorem dM_leaves_10 : decode cM_leaves 10 = .ok (.aload_n 0, 1) := by decide +kernel
theorem dM_leaves_11 : decode cM_leaves 11 = .ok (.getfield 85, 3) := by decide +kernel
theorem dM_leaves_14 : decode cM_leaves 14 = .ok (.ifCond .le 91, 3) := by decide +kernel
theorem dM_leaves_17 : decode cM_leaves 17 = .ok (.aload_n 0, 1) := by decide +kernel
theorem dM_leaves_18 : decode cM_leaves 18 = .ok (.getfield 38, 3) := by decide +kernel
theorem dM_leaves_21 : decode cM_leaves 21 = .ok (.aload_n 0, 1) := by decide +kernel
theorem dM_leaves_22 : decode cM_leaves 22 = .ok (.getfield 85, 3) := by decide +kernel
theorem dM_leaves_25 : decode cM_leaves 25 = .ok (.iconst 1, 1) := by decide +kernel
theorem dM_leaves_26 : decode cM_leaves 26 = .ok (.isub, 1) := by decide +kernel
theorem dM_leaves_27 : decode cM_leaves 27 = .ok (.iaload, 1) := by decide +kernel
theorem dM_leaves_28 : decode cM_leaves 28 = .ok (.istore_n 2, 1) := by decide +kernel
theorem dM_leaves_29 : decode cM_leaves 29 = .ok (.aload_n 0, 1) := by decide +kernel
theorem dM_leaves_30 : decode cM_leaves 30 = .ok (.getfield 41, 3) := by decide +kernel
theorem dM_leaves_33 : decode cM_leaves 33 = .ok (.aload_n 0, 1) := by decide +kernel
theorem dM_leaves_34 : decode cM_leaves 34 = .ok (.getfield 85, 3) := by decide +kernel
theorem dM_leaves_37 : decode cM_leaves 37 = .ok (.iconst 1, 1) := by decide +kernel
theorem dM_leaves_38 : decode cM_leaves 38 = .ok (.isub, 1) := by decide +kernel
theorem dM_leaves_39 : decode cM_leaves 39 = .ok (.iaload, 1) := by decide +kernel
theorem dM_leaves_40 : decode cM_leaves 40 = .ok (.istore_n 3, 1) := by decide +kernel
theorem dM_leaves_41 : decode cM_leaves 41 = .ok (.iload_n 3, 1) := by decide +kernel
theorem dM_leaves_42 : decode cM_leaves 42 = .ok (.aload_n 0, 1) := by decide +kernel
theorem dM_leaves_43 : decode cM_leaves 43 = .ok (.getfield 20, 3) := by decide +kernel
theorem dM_leaves_46 : decode cM_leaves 46 = .ok (.iload_n 2, 1) := by decide +kernel
theorem dM_leaves_47 : decode cM_leaves 47 = .ok (.iaload, 1) := by decide +kernel
theorem dM_leaves_48 : decode cM_leaves 48 = .ok (.if_icmp .le 21, 3) := by decide +kernel
theorem dM_leaves_51 : decode cM_leaves 51 = .ok (.aload_n 0, 1) := by decide +kernel
theorem dM_leaves_52 : decode cM_leaves 52 = .ok (.dup, 1) := by decide +kernel
theorem dM_leaves_53 : decode cM_leaves 53 = .ok (.getfield 85, 3) := by decide +kernel
theorem dM_leaves_56 : decode cM_leaves 56 = .ok (.iconst 1, 1) := by decide +kernel
theorem dM_leaves_57 : decode cM_leaves 57 = .ok (.isub, 1) := by decide +kernel
theorem dM_leaves_58 : decode cM_leaves 58 = .ok (.putfield 85, 3) := by decide +kernel
theorem dM_leaves_61 : decode cM_leaves 61 = .ok (.aload_n 0, 1) := by decide +kernel
theorem dM_leaves_62 : decode cM_leaves 62 = .ok (.iload_n 2, 1) := by decide +kernel
theorem dM_leaves_63 : decode cM_leaves 63 = .ok (.invokevirtual 92, 3) := by decide +kernel
theorem dM_leaves_66 : decode cM_leaves 66 = .ok (.goto 36, 3) := by decide +kernel
theorem dM_leaves_69 : decode cM_leaves 69 = .ok (.aload_n 0, 1) := by decide +kernel
theorem dM_leaves_70 : decode cM_leaves 70 = .ok (.getfield 41, 3) := by decide +kernel
theorem dM_leaves_73 : decode cM_leaves 73 = .ok (.aload_n 0, 1) := by decide +kernel
theorem dM_leaves_74 : decode cM_leaves 74 = .ok (.getfield 85, 3) := by decide +kernel
theorem dM_leaves_77 : decode cM_leaves 77 = .ok (.iconst 1, 1) := by decide +kernel
theorem dM_leaves_78 : decode cM_leaves 78 = .ok (.isub, 1) := by decide +kernel
theorem dM_leaves_79 : decode cM_leaves 79 = .ok (.iload_n 3, 1) := by decide +kernel
theorem dM_leaves_80 : decode cM_leaves 80 = .ok (.iconst 1, 1) := by decide +kernel
theorem dM_leaves_81 : decode cM_leaves 81 = .ok (.iadd, 1) := by decide +kernel
theorem dM_leaves_82 : decode cM_leaves 82 = .ok (.iastore, 1) := by decide +kernel
theorem dM_leaves_83 : decode cM_leaves 83 = .ok (.aload_n 0, 1) := by decide +kernel
theorem dM_leaves_84 : decode cM_leaves 84 = .ok (.aload_n 0, 1) := by decide +kernel
theorem dM_leaves_85 : decode cM_leaves 85 = .ok (.getfield 26, 3) := by decide +kernel
theorem dM_leaves_88 : decode cM_leaves 88 = .ok (.aload_n 0, 1) := by decide +kernel
theorem dM_leaves_89 : decode cM_leaves 89 = .ok (.getfield 17, 3) := by decide +kernel
theorem dM_leaves_92 : decode cM_leaves 92 = .ok (.iload_n 2, 1) := by decide +kernel
theorem dM_leaves_93 : decode cM_leaves 93 = .ok (.iaload, 1) := by decide +kernel
theorem dM_leaves_94 : decode cM_leaves 94 = .ok (.iconst 1, 1) := by decide +kernel
theorem dM_leaves_95 : decode cM_leaves 95 = .ok (.iadd, 1) := by decide +kernel
theorem dM_leaves_96 : decode cM_leaves 96 = .ok (.iload_n 3, 1) := by decide +kernel
theorem dM_leaves_97 : decode cM_leaves 97 = .ok (.iadd, 1) := by decide +kernel
theorem dM_leaves_98 : decode cM_leaves 98 = .ok (.iaload, 1) := by decide +kernel
theorem dM_leaves_99 : decode cM_leaves 99 = .ok (.invokevirtual 88, 3) := by decide +kernel
theorem dM_leaves_102 : decode cM_leaves 102 = .ok (.goto (-92), 3) := by decide +kernel
theorem dM_leaves_105 : decode cM_leaves 105 = .ok (.return_, 1) := by decide +kernel
theorem dM_replace_0 : decode cM_replace 0 = .ok (.aload_n 0, 1) := by decide +kernel
theorem dM_replace_1 : decode cM_replace 1 = .ok (.iload_n 2, 1) := by decide +kernel
theorem dM_replace_2 : decode cM_replace 2 = .ok (.invokevirtual 95, 3) := by decide +kernel
theorem dM_replace_5 : decode cM_replace 5 = .ok (.aload_n 0, 1) := by decide +kernel
theorem dM_replace_6 : decode cM_replace 6 = .ok (.iload_n 1, 1) := by decide +kernel
theorem dM_replace_7 : decode cM_replace 7 = .ok (.invokevirtual 98, 3) := by decide +kernel
theorem dM_replace_10 : decode cM_replace 10 = .ok (.iload_n 1, 1) := by decide +kernel
theorem dM_replace_11 : decode cM_replace 11 = .ok (.ireturn, 1) := by decide +kernel
theorem dM_reach_0 : decode cM_reach 0 = .ok (.iload_n 1, 1) := by decide +kernel
theorem dM_reach_1 : decode cM_reach 1 = .ok (.invokestatic 61, 3) := by decide +kernel
theorem dM_reach_4 : decode cM_reach 4 = .ok (.ifCond .eq 18, 3) := by decide +kernel
theorem dM_reach_7 : decode cM_reach 7 = .ok (.aload_n 0, 1) := by decide +kernel
theorem dM_reach_8 : decode cM_reach 8 = .ok (.getfield 44, 3) := by decide +kernel
theorem dM_reach_11 : decode cM_reach 11 = .ok (.iload_n 1, 1) := by decide +kernel
theorem dM_reach_12 : decode cM_reach 12 = .ok (.iconst 2, 1) := by decide +kernel
theorem dM_reach_13 : decode cM_reach 13 = .ok (.idiv, 1) := by decide +kernel
theorem dM_reach_14 : decode cM_reach 14 = .ok (.baload, 1) := by decide +kernel
theorem dM_reach_15 : decode cM_reach 15 = .ok (.ifCond .ne 7, 3) := by decide +kernel
theorem dM_reach_18 : decode cM_reach 18 = .ok (.iconst 1, 1) := by decide +kernel
theorem dM_reach_19 : decode cM_reach 19 = .ok (.goto 4, 3) := by decide +kernel
theorem dM_reach_22 : decode cM_reach 22 = .ok (.iconst 0, 1) := by decide +kernel
theorem dM_reach_23 : decode cM_reach 23 = .ok (.istore_n 2, 1) := by decide +kernel
theorem dM_reach_24 : decode cM_reach 24 = .ok (.iload_n 2, 1) := by decide +kernel
theorem dM_reach_25 : decode cM_reach 25 = .ok (.ifCond .eq 12, 3) := by decide +kernel
theorem dM_reach_28 : decode cM_reach 28 = .ok (.aload_n 0, 1) := by decide +kernel
theorem dM_reach_29 : decode cM_reach 29 = .ok (.getfield 44, 3) := by decide +kernel
theorem dM_reach_32 : decode cM_reach 32 = .ok (.iload_n 1, 1) := by decide +kernel
theorem dM_reach_33 : decode cM_reach 33 = .ok (.iconst 2, 1) := by decide +kernel
theorem dM_reach_34 : decode cM_reach 34 = .ok (.idiv, 1) := by decide +kernel
theorem dM_reach_35 : decode cM_reach 35 = .ok (.iconst 1, 1) := by decide +kernel
theorem dM_reach_36 : decode cM_reach 36 = .ok (.bastore, 1) := by decide +kernel
theorem dM_reach_37 : decode cM_reach 37 = .ok (.iload_n 2, 1) := by decide +kernel
theorem dM_reach_38 : decode cM_reach 38 = .ok (.ireturn, 1) := by decide +kernel
theorem dM_spread_0 : decode cM_spread 0 = .ok (.iconst 0, 1) := by decide +kernel
theorem dM_spread_1 : decode cM_spread 1 = .ok (.istore_n 2, 1) := by decide +kernel
theorem dM_spread_2 : decode cM_spread 2 = .ok (.iconst 0, 1) := by decide +kernel
theorem dM_spread_3 : decode cM_spread 3 = .ok (.istore_n 3, 1) := by decide +kernel
theorem dM_spread_4 : decode cM_spread 4 = .ok (.iload_n 3, 1) := by decide +kernel
theorem dM_spread_5 : decode cM_spread 5 = .ok (.aload_n 0, 1) := by decide +kernel
theorem dM_spread_6 : decode cM_spread 6 = .ok (.getfield 20, 3) := by decide +kernel
theorem dM_spread_9 : decode cM_spread 9 = .ok (.iload_n 1, 1) := by decide +kernel
theorem dM_spread_10 : decode cM_spread 10 = .ok (.iaload, 1) := by decide +kernel
theorem dM_spread_11 : decode cM_spread 11 = .ok (.if_icmp .gt 45, 3) := by decide +kernel
theorem dM_spread_14 : decode cM_spread 14 = .ok (.aload_n 0, 1) := by decide +kernel
theorem dM_spread_15 : decode cM_spread 15 = .ok (.aload_n 0, 1) := by decide +kernel
theorem dM_spread_16 : decode cM_spread 16 = .ok (.getfield 26, 3) := by decide +kernel
theorem dM_spread_19 : decode cM_spread 19 = .ok (.aload_n 0, 1) := by decide +kernel
theorem dM_spread_20 : decode cM_spread 20 = .ok (.getfield 17, 3) := by decide +kernel
theorem dM_spread_23 : decode cM_spread 23 = .ok (.iload_n 1, 1) := by decide +kernel
theorem dM_spread_24 : decode cM_spread 24 = .ok (.iaload, 1) := by decide +kernel
theorem dM_spread_25 : decode cM_spread 25 = .ok (.iconst 1, 1) := by decide +kernel
theorem dM_spread_26 : decode cM_spread 26 = .ok (.iadd, 1) := by decide +kernel
theorem dM_spread_27 : decode cM_spread 27 = .ok (.iload_n 3, 1) := by decide +kernel
theorem dM_spread_28 : decode cM_spread 28 = .ok (.iadd, 1) := by decide +kernel
theorem dM_spread_29 : decode cM_spread 29 = .ok (.iaload, 1) := by decide +kernel
theorem dM_spread_30 : decode cM_spread 30 = .ok (.invokevirtual 101, 3) := by decide +kernel
theorem dM_spread_33 : decode cM_spread 33 = .ok (.istore 4, 2) := by decide +kernel
theorem dM_spread_35 : decode cM_spread 35 = .ok (.iload_n 2, 1) := by decide +kernel
theorem dM_spread_36 : decode cM_spread 36 = .ok (.ifCond .ne 8, 3) := by decide +kernel
theorem dM_spread_39 : decode cM_spread 39 = .ok (.iload 4, 2) := by decide +kernel
theorem dM_spread_41 : decode cM_spread 41 = .ok (.ifCond .eq 7, 3) := by decide +kernel
theorem dM_spread_44 : decode cM_spread 44 = .ok (.iconst 1, 1) := by decide +kernel
theorem dM_spread_45 : decode cM_spread 45 = .ok (.goto 4, 3) := by decide +kernel
theorem dM_spread_48 : decode cM_spread 48 = .ok (.iconst 0, 1) := by decide +kernel
theorem dM_spread_49 : decode cM_spread 49 = .ok (.istore_n 2, 1) := by decide +kernel
theorem dM_spread_50 : decode cM_spread 50 = .ok (.iinc 3 1, 3) := by decide +kernel
theorem dM_spread_53 : decode cM_spread 53 = .ok (.goto (-49), 3) := by decide +kernel
theorem dM_spread_56 : decode cM_spread 56 = .ok (.iload_n 2, 1) := by decide +kernel
theorem dM_spread_57 : decode cM_spread 57 = .ok (.ireturn, 1) := by decide +kernel
theorem dM_gather_0 : decode cM_gather 0 = .ok (.iconst 1, 1) := by decide +kernel
theorem dM_gather_1 : decode cM_gather 1 = .ok (.istore_n 2, 1) := by decide +kernel
theorem dM_gather_2 : decode cM_gather 2 = .ok (.iload_n 2, 1) := by decide +kernel
theorem dM_gather_3 : decode cM_gather 3 = .ok (.aload_n 0, 1) := by decide +kernel
theorem dM_gather_4 : decode cM_gather 4 = .ok (.getfield 51, 3) := by decide +kernel
theorem dM_gather_7 : decode cM_gather 7 = .ok (.if_icmp .gt 16, 3) := by decide +kernel
theorem dM_gather_10 : decode cM_gather 10 = .ok (.aload_n 0, 1) := by decide +kernel
theorem dM_gather_11 : decode cM_gather 11 = .ok (.getfield 44, 3) := by decide +kernel
theorem dM_gather_14 : decode cM_gather 14 = .ok (.iload_n 2, 1) := by decide +kernel
theorem dM_gather_15 : decode cM_gather 15 = .ok (.iconst 0, 1) := by decide +kernel
theorem dM_gather_16 : decode cM_gather 16 = .ok (.bastore, 1) := by decide +kernel
theorem dM_gather_17 : decode cM_gather 17 = .ok (.iinc 2 1, 3) := by decide +kernel
theorem dM_gather_20 : decode cM_gather 20 = .ok (.goto (-18), 3) := by decide +kernel
theorem dM_gather_23 : decode cM_gather 23 = .ok (.aload_n 0, 1) := by decide +kernel
theorem dM_gather_24 : decode cM_gather 24 = .ok (.iload_n 1, 1) := by decide +kernel
theorem dM_gather_25 : decode cM_gather 25 = .ok (.invokevirtual 101, 3) := by decide +kernel
theorem dM_gather_28 : decode cM_gather 28 = .ok (.istore_n 2, 1) := by decide +kernel
theorem dM_gather_29 : decode cM_gather 29 = .ok (.iconst 0, 1) := by decide +kernel
theorem dM_gather_30 : decode cM_gather 30 = .ok (.istore_n 3, 1) := by decide +kernel
theorem dM_gather_31 : decode cM_gather 31 = .ok (.iload_n 3, 1) := by decide +kernel
theorem dM_gather_32 : decode cM_gather 32 = .ok (.bipush 8, 2) := by decide +kernel
theorem dM_gather_34 : decode cM_gather 34 = .ok (.if_icmp .ge 36, 3) := by decide +kernel
theorem dM_gather_37 : decode cM_gather 37 = .ok (.aload_n 0, 1) := by decide +kernel
theorem dM_gather_38 : decode cM_gather 38 = .ok (.aload_n 0, 1) := by decide +kernel
theorem dM_gather_39 : decode cM_gather 39 = .ok (.getfield 7, 3) := by decide +kernel
theorem dM_gather_42 : decode cM_gather 42 = .ok (.iload_n 3, 1) := by decide +kernel
theorem dM_gather_43 : decode cM_gather 43 = .ok (.iaload, 1) := by decide +kernel
theorem dM_gather_44 : decode cM_gather 44 = .ok (.invokevirtual 101, 3) := by decide +kernel
theorem dM_gather_47 : decode cM_gather 47 = .ok (.istore 4, 2) := by decide +kernel
theorem dM_gather_49 : decode cM_gather 49 = .ok (.iload_n 2, 1) := by decide +kernel
theorem dM_gather_50 : decode cM_gather 50 = .ok (.ifCond .ne 8, 3) := by decide +kernel
theorem dM_gather_53 : decode cM_gather 53 = .ok (.iload 4, 2) := by decide +kernel
theorem dM_gather_55 : decode cM_gather 55 = .ok (.ifCond .eq 7, 3) := by decide +kernel
theorem dM_gather_58 : decode cM_gather 58 = .ok (.iconst 1, 1) := by decide +kernel
theorem dM_gather_59 : decode cM_gather 59 = .ok (.goto 4, 3) := by decide +kernel
theorem dM_gather_62 : decode cM_gather 62 = .ok (.iconst 0, 1) := by decide +kernel
theorem dM_gather_63 : decode cM_gather 63 = .ok (.istore_n 2, 1) := by decide +kernel
theorem dM_gather_64 : decode cM_gather 64 = .ok (.iinc 3 1, 3) := by decide +kernel
theorem dM_gather_67 : decode cM_gather 67 = .ok (.goto (-36), 3) := by decide +kernel
theorem dM_gather_70 : decode cM_gather 70 = .ok (.iload_n 2, 1) := by decide +kernel
theorem dM_gather_71 : decode cM_gather 71 = .ok (.ifCond .eq 72, 3) := by decide +kernel
theorem dM_gather_74 : decode cM_gather 74 = .ok (.iconst 0, 1) := by decide +kernel
theorem dM_gather_75 : decode cM_gather 75 = .ok (.istore_n 2, 1) := by decide +kernel
theorem dM_gather_76 : decode cM_gather 76 = .ok (.iconst 1, 1) := by decide +kernel
theorem dM_gather_77 : decode cM_gather 77 = .ok (.istore_n 3, 1) := by decide +kernel
theorem dM_gather_78 : decode cM_gather 78 = .ok (.iload_n 3, 1) := by decide +kernel
theorem dM_gather_79 : decode cM_gather 79 = .ok (.aload_n 0, 1) := by decide +kernel
theorem dM_gather_80 : decode cM_gather 80 = .ok (.getfield 51, 3) := by decide +kernel
theorem dM_gather_83 : decode cM_gather 83 = .ok (.if_icmp .gt 57, 3) := by decide +kernel
theorem dM_gather_86 : decode cM_gather 86 = .ok (.aload_n 0, 1) := by decide +kernel
theorem dM_gather_87 : decode cM_gather 87 = .ok (.getfield 13, 3) := by decide +kernel
theorem dM_gather_90 : decode cM_gather 90 = .ok (.iload_n 3, 1) := by decide +kernel
theorem dM_gather_91 : decode cM_gather 91 = .ok (.baload, 1) := by decide +kernel
theorem dM_gather_92 : decode cM_gather 92 = .ok (.ifCond .eq 24, 3) := by decide +kernel
theorem dM_gather_95 : decode cM_gather 95 = .ok (.aload_n 0, 1) := by decide +kernel
theorem dM_gather_96 : decode cM_gather 96 = .ok (.getfield 44, 3) := by decide +kernel
theorem dM_gather_99 : decode cM_gather 99 = .ok (.iload_n 3, 1) := by decide +kernel
theorem dM_gather_100 : decode cM_gather 100 = .ok (.baload, 1) := by decide +kernel
theorem dM_gather_101 : decode cM_gather 101 = .ok (.ifCond .eq 15, 3) := by decide +kernel
theorem dM_gather_104 : decode cM_gather 104 = .ok (.aload_n 0, 1) := by decide +kernel
theorem dM_gather_105 : decode cM_gather 105 = .ok (.iload_n 3, 1) := by decide +kernel
theorem dM_gather_106 : decode cM_gather 106 = .ok (.invokevirtual 104, 3) := by decide +kernel
theorem dM_gather_109 : decode cM_gather 109 = .ok (.ifCond .eq 7, 3) := by decide +kernel
theorem dM_gather_112 : decode cM_gather 112 = .ok (.iconst 1, 1) := by decide +kernel
theorem dM_gather_113 : decode cM_gather 113 = .ok (.goto 4, 3) := by decide +kernel
theorem dM_gather_116 : decode cM_gather 116 = .ok (.iconst 0, 1) := by decide +kernel
theorem dM_gather_117 : decode cM_gather 117 = .ok (.istore 4, 2) := by decide +kernel
theorem dM_gather_119 : decode cM_gather 119 = .ok (.iload_n 2, 1) := by decide +kernel
theorem dM_gather_120 : decode cM_gather 120 = .ok (.ifCond .ne 8, 3) := by decide +kernel
theorem dM_gather_123 : decode cM_gather 123 = .ok (.iload 4, 2) := by decide +kernel
theorem dM_gather_125 : decode cM_gather 125 = .ok (.ifCond .eq 7, 3) := by decide +kernel
theorem dM_gather_128 : decode cM_gather 128 = .ok (.iconst 1, 1) := by decide +kernel
theorem dM_gather_129 : decode cM_gather 129 = .ok (.goto 4, 3) := by decide +kernel
theorem dM_gather_132 : decode cM_gather 132 = .ok (.iconst 0, 1) := by decide +kernel
theorem dM_gather_133 : decode cM_gather 133 = .ok (.istore_n 2, 1) := by decide +kernel
theorem dM_gather_134 : decode cM_gather 134 = .ok (.iinc 3 1, 3) := by decide +kernel
theorem dM_gather_137 : decode cM_gather 137 = .ok (.goto (-59), 3) := by decide +kernel
theorem dM_gather_140 : decode cM_gather 140 = .ok (.goto (-70), 3) := by decide +kernel
theorem dM_gather_143 : decode cM_gather 143 = .ok (.iconst 0, 1) := by decide +kernel
theorem dM_gather_144 : decode cM_gather 144 = .ok (.istore_n 3, 1) := by decide +kernel
theorem dM_gather_145 : decode cM_gather 145 = .ok (.iconst 1, 1) := by decide +kernel
theorem dM_gather_146 : decode cM_gather 146 = .ok (.istore 4, 2) := by decide +kernel
theorem dM_gather_148 : decode cM_gather 148 = .ok (.iload 4, 2) := by decide +kernel
theorem dM_gather_150 : decode cM_gather 150 = .ok (.aload_n 0, 1) := by decide +kernel
theorem dM_gather_151 : decode cM_gather 151 = .ok (.getfield 51, 3) := by decide +kernel
theorem dM_gather_154 : decode cM_gather 154 = .ok (.if_icmp .gt 46, 3) := by decide +kernel
theorem dM_gather_157 : decode cM_gather 157 = .ok (.aload_n 0, 1) := by decide +kernel
theorem dM_gather_158 : decode cM_gather 158 = .ok (.getfield 23, 3) := by decide +kernel
theorem dM_gather_161 : decode cM_gather 161 = .ok (.iload 4, 2) := by decide +kernel
theorem dM_gather_163 : decode cM_gather 163 = .ok (.iconst 0, 1) := by decide +kernel
theorem dM_gather_164 : decode cM_gather 164 = .ok (.iastore, 1) := by decide +kernel
theorem dM_gather_165 : decode cM_gather 165 = .ok (.aload_n 0, 1) := by decide +kernel
theorem dM_gather_166 : decode cM_gather 166 = .ok (.getfield 13, 3) := by decide +kernel
theorem dM_gather_169 : decode cM_gather 169 = .ok (.iload 4, 2) := by decide +kernel
theorem dM_gather_171 : decode cM_gather 171 = .ok (.baload, 1) := by decide +kernel
theorem dM_gather_172 : decode cM_gather 172 = .ok (.ifCond .eq 22, 3) := by decide +kernel
theorem dM_gather_175 : decode cM_gather 175 = .ok (.aload_n 0, 1) := by decide +kernel
theorem dM_gather_176 : decode cM_gather 176 = .ok (.getfield 44, 3) := by decide +kernel
theorem dM_gather_179 : decode cM_gather 179 = .ok (.iload 4, 2) := by decide +kernel
theorem dM_gather_181 : decode cM_gather 181 = .ok (.baload, 1) := by decide +kernel
theorem dM_gather_182 : decode cM_gather 182 = .ok (.ifCond .ne 12, 3) := by decide +kernel
theorem dM_gather_185 : decode cM_gather 185 = .ok (.aload_n 0, 1) := by decide +kernel
theorem dM_gather_186 : decode cM_gather 186 = .ok (.iload 4, 2) := by decide +kernel
theorem dM_gather_188 : decode cM_gather 188 = .ok (.invokevirtual 92, 3) := by decide +kernel
theorem dM_gather_191 : decode cM_gather 191 = .ok (.iinc 3 1, 3) := by decide +kernel
theorem dM_gather_194 : decode cM_gather 194 = .ok (.iinc 4 1, 3) := by decide +kernel
theorem dM_gather_197 : decode cM_gather 197 = .ok (.goto (-49), 3) := by decide +kernel
theorem dM_gather_200 : decode cM_gather 200 = .ok (.iconst 0, 1) := by decide +kernel
theorem dM_gather_201 : decode cM_gather 201 = .ok (.istore 4, 2) := by decide +kernel
theorem dM_gather_203 : decode cM_gather 203 = .ok (.iload 4, 2) := by decide +kernel
theorem dM_gather_205 : decode cM_gather 205 = .ok (.bipush 8, 2) := by decide +kernel
theorem dM_gather_207 : decode cM_gather 207 = .ok (.if_icmp .ge 20, 3) := by decide +kernel
theorem dM_gather_210 : decode cM_gather 210 = .ok (.aload_n 0, 1) := by decide +kernel
theorem dM_gather_211 : decode cM_gather 211 = .ok (.aload_n 0, 1) := by decide +kernel
theorem dM_gather_212 : decode cM_gather 212 = .ok (.getfield 7, 3) := by decide +kernel
theorem dM_gather_215 : decode cM_gather 215 = .ok (.iload 4, 2) := by decide +kernel
theorem dM_gather_217 : decode cM_gather 217 = .ok (.iaload, 1) := by decide +kernel
theorem dM_gather_218 : decode cM_gather 218 = .ok (.invokevirtual 95, 3) := by decide +kernel
theorem dM_gather_221 : decode cM_gather 221 = .ok (.iinc 4 1, 3) := by decide +kernel
theorem dM_gather_224 : decode cM_gather 224 = .ok (.goto (-21), 3) := by decide +kernel
theorem dM_gather_227 : decode cM_gather 227 = .ok (.iconst 1, 1) := by decide +kernel
theorem dM_gather_228 : decode cM_gather 228 = .ok (.istore 4, 2) := by decide +kernel
theorem dM_gather_230 : decode cM_gather 230 = .ok (.iload 4, 2) := by decide +kernel
theorem dM_gather_232 : decode cM_gather 232 = .ok (.aload_n 0, 1) := by decide +kernel
theorem dM_gather_233 : decode cM_gather 233 = .ok (.getfield 51, 3) := by decide +kernel
theorem dM_gather_236 : decode cM_gather 236 = .ok (.if_icmp .gt 61, 3) := by decide +kernel
theorem dM_gather_239 : decode cM_gather 239 = .ok (.iconst 0, 1) := by decide +kernel
theorem dM_gather_240 : decode cM_gather 240 = .ok (.istore 5, 2) := by decide +kernel
theorem dM_gather_242 : decode cM_gather 242 = .ok (.aload_n 0, 1) := by decide +kernel
theorem dM_gather_243 : decode cM_gather 243 = .ok (.getfield 13, 3) := by decide +kernel
theorem dM_gather_246 : decode cM_gather 246 = .ok (.iload 4, 2) := by decide +kernel
theorem dM_gather_248 : decode cM_gather 248 = .ok (.baload, 1) := by decide +kernel
theorem dM_gather_249 : decode cM_gather 249 = .ok (.ifCond .eq 42, 3) := by decide +kernel
theorem dM_gather_252 : decode cM_gather 252 = .ok (.iload 5, 2) := by decide +kernel
theorem dM_gather_254 : decode cM_gather 254 = .ok (.aload_n 0, 1) := by decide +kernel
theorem dM_gather_255 : decode cM_gather 255 = .ok (.getfield 20, 3) := by decide +kernel
theorem dM_gather_258 : decode cM_gather 258 = .ok (.iload 4, 2) := by decide +kernel
theorem dM_gather_260 : decode cM_gather 260 = .ok (.iaload, 1) := by decide +kernel
theorem dM_gather_261 : decode cM_gather 261 = .ok (.if_icmp .gt 30, 3) := by decide +kernel
theorem dM_gather_264 : decode cM_gather 264 = .ok (.aload_n 0, 1) := by decide +kernel
theorem dM_gather_265 : decode cM_gather 265 = .ok (.aload_n 0, 1) := by decide +kernel
theorem dM_gather_266 : decode cM_gather 266 = .ok (.getfield 26, 3) := by decide +kernel
theorem dM_gather_269 : decode cM_gather 269 = .ok (.aload_n 0, 1) := by decide +kernel
theorem dM_gather_270 : decode cM_gather 270 = .ok (.getfield 17, 3) := by decide +kernel
theorem dM_gather_273 : decode cM_gather 273 = .ok (.iload 4, 2) := by decide +kernel
theorem dM_gather_275 : decode cM_gather 275 = .ok (.iaload, 1) := by decide +kernel
theorem dM_gather_276 : decode cM_gather 276 = .ok (.iconst 1, 1) := by decide +kernel
theorem dM_gather_277 : decode cM_gather 277 = .ok (.iadd, 1) := by decide +kernel
theorem dM_gather_278 : decode cM_gather 278 = .ok (.iload 5, 2) := by decide +kernel
theorem dM_gather_280 : decode cM_gather 280 = .ok (.iadd, 1) := by decide +kernel
theorem dM_gather_281 : decode cM_gather 281 = .ok (.iaload, 1) := by decide +kernel
theorem dM_gather_282 : decode cM_gather 282 = .ok (.invokevirtual 95, 3) := by decide +kernel
theorem dM_gather_285 : decode cM_gather 285 = .ok (.iinc 5 1, 3) := by decide +kernel
theorem dM_gather_288 : decode cM_gather 288 = .ok (.goto (-46), 3) := by decide +kernel
theorem dM_gather_291 : decode cM_gather 291 = .ok (.iinc 4 1, 3) := by decide +kernel
theorem dM_gather_294 : decode cM_gather 294 = .ok (.goto (-64), 3) := by decide +kernel
theorem dM_gather_297 : decode cM_gather 297 = .ok (.iload_n 3, 1) := by decide +kernel
theorem dM_gather_298 : decode cM_gather 298 = .ok (.ireturn, 1) := by decide +kernel
theorem dM_freeEntry_0 : decode cM_freeEntry 0 = .ok (.iconst 1, 1) := by decide +kernel
theorem dM_freeEntry_1 : decode cM_freeEntry 1 = .ok (.istore_n 1, 1) := by decide +kernel
theorem dM_freeEntry_2 : decode cM_freeEntry 2 = .ok (.iload_n 1, 1) := by decide +kernel
theorem dM_freeEntry_3 : decode cM_freeEntry 3 = .ok (.aload_n 0, 1) := by decide +kernel
theorem dM_freeEntry_4 : decode cM_freeEntry 4 = .ok (.getfield 51, 3) := by decide +kernel
theorem dM_freeEntry_7 : decode cM_freeEntry 7 = .ok (.if_icmp .gt 20, 3) := by decide +kernel
theorem dM_freeEntry_10 : decode cM_freeEntry 10 = .ok (.aload_n 0, 1) := by decide +kernel
theorem dM_freeEntry_11 : decode cM_freeEntry 11 = .ok (.getfield 13, 3) := by decide +kernel
theorem dM_freeEntry_14 : decode cM_freeEntry 14 = .ok (.iload_n 1, 1) := by decide +kernel
theorem dM_freeEntry_15 : decode cM_freeEntry 15 = .ok (.baload, 1) := by decide +kernel
theorem dM_freeEntry_16 : decode cM_freeEntry 16 = .ok (.ifCond .ne 5, 3) := by decide +kernel
theorem dM_freeEntry_19 : decode cM_freeEntry 19 = .ok (.iload_n 1, 1) := by decide +kernel
theorem dM_freeEntry_20 : decode cM_freeEntry 20 = .ok (.ireturn, 1) := by decide +kernel
theorem dM_freeEntry_21 : decode cM_freeEntry 21 = .ok (.iinc 1 1, 3) := by decide +kernel
theorem dM_freeEntry_24 : decode cM_freeEntry 24 = .ok (.goto (-22), 3) := by decide +kernel
theorem dM_freeEntry_27 : decode cM_freeEntry 27 = .ok (.iconst 0, 1) := by decide +kernel
theorem dM_freeEntry_28 : decode cM_freeEntry 28 = .ok (.ireturn, 1) := by decide +kernel
theorem dM_instantiate_0 : decode cM_instantiate 0 = .ok (.aload_n 0, 1) := by decide +kernel
theorem dM_instantiate_1 : decode cM_instantiate 1 = .ok (.iload_n 1, 1) := by decide +kernel
theorem dM_instantiate_2 : decode cM_instantiate 2 = .ok (.invokestatic 107, 3) := by decide +kernel
theorem dM_instantiate_5 : decode cM_instantiate 5 = .ok (.ifCond .ne 7, 3) := by decide +kernel
theorem dM_instantiate_8 : decode cM_instantiate 8 = .ok (.iconst 1, 1) := by decide +kernel
theorem dM_instantiate_9 : decode cM_instantiate 9 = .ok (.goto 26, 3) := by decide +kernel
theorem dM_instantiate_12 : decode cM_instantiate 12 = .ok (.aload_n 0, 1) := by decide +kernel
theorem dM_instantiate_13 : decode cM_instantiate 13 = .ok (.iload_n 2, 1) := by decide +kernel
theorem dM_instantiate_14 : decode cM_instantiate 14 = .ok (.invokevirtual 110, 3) := by decide +kernel
theorem dM_instantiate_17 : decode cM_instantiate 17 = .ok (.ifCond .eq 13, 3) := by decide +kernel
theorem dM_instantiate_20 : decode cM_instantiate 20 = .ok (.iload_n 3, 1) := by decide +kernel
theorem dM_instantiate_21 : decode cM_instantiate 21 = .ok (.ifCond .lt 9, 3) := by decide +kernel
theorem dM_instantiate_24 : decode cM_instantiate 24 = .ok (.iload_n 3, 1) := by decide +kernel
theorem dM_instantiate_25 : decode cM_instantiate 25 = .ok (.bipush 20, 2) := by decide +kernel
theorem dM_instantiate_27 : decode cM_instantiate 27 = .ok (.if_icmp .le 7, 3) := by decide +kernel
theorem dM_instantiate_30 : decode cM_instantiate 30 = .ok (.iconst 2, 1) := by decide +kernel
theorem dM_instantiate_31 : decode cM_instantiate 31 = .ok (.goto 4, 3) := by decide +kernel
theorem dM_instantiate_34 : decode cM_instantiate 34 = .ok (.iconst 0, 1) := by decide +kernel
theorem dM_instantiate_35 : decode cM_instantiate 35 = .ok (.putfield 58, 3) := by decide +kernel
theorem dM_instantiate_38 : decode cM_instantiate 38 = .ok (.aload_n 0, 1) := by decide +kernel
theorem dM_instantiate_39 : decode cM_instantiate 39 = .ok (.getfield 58, 3) := by decide +kernel
theorem dM_instantiate_42 : decode cM_instantiate 42 = .ok (.ifCond .eq 5, 3) := by decide +kernel
theorem dM_instantiate_45 : decode cM_instantiate 45 = .ok (.iconst 0, 1) := by decide +kernel
theorem dM_instantiate_46 : decode cM_instantiate 46 = .ok (.ireturn, 1) := by decide +kernel
theorem dM_instantiate_47 : decode cM_instantiate 47 = .ok (.aload_n 0, 1) := by decide +kernel
theorem dM_instantiate_48 : decode cM_instantiate 48 = .ok (.invokevirtual 113, 3) := by decide +kernel
theorem dM_instantiate_51 : decode cM_instantiate 51 = .ok (.ifCond .ne 7, 3) := by decide +kernel
theorem dM_instantiate_54 : decode cM_instantiate 54 = .ok (.iconst 1, 1) := by decide +kernel
theorem dM_instantiate_55 : decode cM_instantiate 55 = .ok (.goto 4, 3) := by decide +kernel
theorem dM_instantiate_58 : decode cM_instantiate 58 = .ok (.iconst 0, 1) := by decide +kernel
theorem dM_instantiate_59 : decode cM_instantiate 59 = .ok (.istore 4, 2) := by decide +kernel
theorem dM_instantiate_61 : decode cM_instantiate 61 = .ok (.iload 4, 2) := by decide +kernel
theorem dM_instantiate_63 : decode cM_instantiate 63 = .ok (.ifCond .eq 10, 3) := by decide +kernel
theorem dM_instantiate_66 : decode cM_instantiate 66 = .ok (.aload_n 0, 1) := by decide +kernel
theorem dM_instantiate_67 : decode cM_instantiate 67 = .ok (.iload_n 2, 1) := by decide +kernel
theorem dM_instantiate_68 : decode cM_instantiate 68 = .ok (.invokevirtual 116, 3) := by decide +kernel
theorem dM_instantiate_71 : decode cM_instantiate 71 = .ok (.istore 5, 2) := by decide +kernel
theorem dM_instantiate_73 : decode cM_instantiate 73 = .ok (.aload_n 0, 1) := by decide +kernel
theorem dM_instantiate_74 : decode cM_instantiate 74 = .ok (.invokevirtual 113, 3) := by decide +kernel
theorem dM_instantiate_77 : decode cM_instantiate 77 = .ok (.ifCond .ne 7, 3) := by decide +kernel
theorem dM_instantiate_80 : decode cM_instantiate 80 = .ok (.iconst (-1), 1) := by decide +kernel
theorem dM_instantiate_81 : decode cM_instantiate 81 = .ok (.goto 10, 3) := by decide +kernel
theorem dM_instantiate_84 : decode cM_instantiate 84 = .ok (.aload_n 0, 1) := by decide +kernel
theorem dM_instantiate_85 : decode cM_instantiate 85 = .ok (.iload_n 3, 1) := by decide +kernel
theorem dM_instantiate_86 : decode cM_instantiate 86 = .ok (.iconst 2, 1) := by decide +kernel
theorem dM_instantiate_87 : decode cM_instantiate 87 = .ok (.iadd, 1) := by decide +kernel
theorem dM_instantiate_88 : decode cM_instantiate 88 = .ok (.invokevirtual 119, 3) := by decide +kernel
theorem dM_instantiate_91 : decode cM_instantiate 91 = .ok (.istore 5, 2) := by decide +kernel
theorem dM_instantiate_93 : decode cM_instantiate 93 = .ok (.iload 5, 2) := by decide +kernel
theorem dM_instantiate_95 : decode cM_instantiate 95 = .ok (.ifCond .ge 24, 3) := by decide +kernel
theorem dM_instantiate_98 : decode cM_instantiate 98 = .ok (.iload 4, 2) := by decide +kernel
theorem dM_instantiate_100 : decode cM_instantiate 100 = .ok (.ifCond .ne 19, 3) := by decide +kernel
theorem dM_instantiate_103 : decode cM_instantiate 103 = .ok (.aload_n 0, 1) := by decide +kernel
theorem dM_instantiate_104 : decode cM_instantiate 104 = .ok (.iload_n 2, 1) := by decide +kernel
theorem dM_instantiate_105 : decode cM_instantiate 105 = .ok (.invokevirtual 116, 3) := by decide +kernel
theorem dM_instantiate_108 : decode cM_instantiate 108 = .ok (.istore 6, 2) := by decide +kernel
theorem dM_instantiate_110 : decode cM_instantiate 110 = .ok (.aload_n 0, 1) := by decide +kernel
theorem dM_instantiate_111 : decode cM_instantiate 111 = .ok (.iload_n 3, 1) := by decide +kernel
theorem dM_instantiate_112 : decode cM_instantiate 112 = .ok (.iconst 2, 1) := by decide +kernel
theorem dM_instantiate_113 : decode cM_instantiate 113 = .ok (.iadd, 1) := by decide +kernel
theorem dM_instantiate_114 : decode cM_instantiate 114 = .ok (.invokevirtual 119, 3) := by decide +kernel
theorem dM_instantiate_117 : decode cM_instantiate 117 = .ok (.istore 5, 2) := by decide +kernel
theorem dM_instantiate_119 : decode cM_instantiate 119 = .ok (.iload 5, 2) := by decide +kernel
theorem dM_instantiate_121 : decode cM_instantiate 121 = .ok (.ifCond .ge 10, 3) := by decide +kernel
theorem dM_instantiate_124 : decode cM_instantiate 124 = .ok (.aload_n 0, 1) := by decide +kernel
theorem dM_instantiate_125 : decode cM_instantiate 125 = .ok (.iconst 3, 1) := by decide +kernel
theorem dM_instantiate_126 : decode cM_instantiate 126 = .ok (.putfield 58, 3) := by decide +kernel
theorem dM_instantiate_129 : decode cM_instantiate 129 = .ok (.iconst 0, 1) := by decide +kernel
theorem dM_instantiate_130 : decode cM_instantiate 130 = .ok (.ireturn, 1) := by decide +kernel
theorem dM_instantiate_131 : decode cM_instantiate 131 = .ok (.aload_n 0, 1) := by decide +kernel
theorem dM_instantiate_132 : decode cM_instantiate 132 = .ok (.invokevirtual 113, 3) := by decide +kernel
theorem dM_instantiate_135 : decode cM_instantiate 135 = .ok (.istore 6, 2) := by decide +kernel
theorem dM_instantiate_137 : decode cM_instantiate 137 = .ok (.aload_n 0, 1) := by decide +kernel
theorem dM_instantiate_138 : decode cM_instantiate 138 = .ok (.getfield 13, 3) := by decide +kernel
theorem dM_instantiate_141 : decode cM_instantiate 141 = .ok (.iload 6, 2) := by decide +kernel
theorem dM_instantiate_143 : decode cM_instantiate 143 = .ok (.iconst 1, 1) := by decide +kernel
theorem dM_instantiate_144 : decode cM_instantiate 144 = .ok (.bastore, 1) := by decide +kernel
theorem dM_instantiate_145 : decode cM_instantiate 145 = .ok (.aload_n 0, 1) := by decide +kernel
theorem dM_instantiate_146 : decode cM_instantiate 146 = .ok (.getfield 17, 3) := by decide +kernel
theorem dM_instantiate_149 : decode cM_instantiate 149 = .ok (.iload 6, 2) := by decide +kernel
theorem dM_instantiate_151 : decode cM_instantiate 151 = .ok (.iload 5, 2) := by decide +kernel
theorem dM_instantiate_153 : decode cM_instantiate 153 = .ok (.iastore, 1) := by decide +kernel
theorem dM_instantiate_154 : decode cM_instantiate 154 = .ok (.aload_n 0, 1) := by decide +kernel
theorem dM_instantiate_155 : decode cM_instantiate 155 = .ok (.getfield 20, 3) := by decide +kernel
theorem dM_instantiate_158 : decode cM_instantiate 158 = .ok (.iload 6, 2) := by decide +kernel
theorem dM_instantiate_160 : decode cM_instantiate 160 = .ok (.iload_n 3, 1) := by decide +kernel
theorem dM_instantiate_161 : decode cM_instantiate 161 = .ok (.iastore, 1) := by decide +kernel
theorem dM_instantiate_162 : decode cM_instantiate 162 = .ok (.aload_n 0, 1) := by decide +kernel
theorem dM_instantiate_163 : decode cM_instantiate 163 = .ok (.getfield 23, 3) := by decide +kernel
theorem dM_instantiate_166 : decode cM_instantiate 166 = .ok (.iload 6, 2) := by decide +kernel
theorem dM_instantiate_168 : decode cM_instantiate 168 = .ok (.iconst 0, 1) := by decide +kernel
theorem dM_instantiate_169 : decode cM_instantiate 169 = .ok (.iastore, 1) := by decide +kernel
theorem dM_instantiate_170 : decode cM_instantiate 170 = .ok (.aload_n 0, 1) := by decide +kernel
theorem dM_instantiate_171 : decode cM_instantiate 171 = .ok (.getfield 26, 3) := by decide +kernel
theorem dM_instantiate_174 : decode cM_instantiate 174 = .ok (.iload 5, 2) := by decide +kernel
theorem dM_instantiate_176 : decode cM_instantiate 176 = .ok (.iconst 1, 1) := by decide +kernel
theorem dM_instantiate_177 : decode cM_instantiate 177 = .ok (.iadd, 1) := by decide +kernel
theorem dM_instantiate_178 : decode cM_instantiate 178 = .ok (.iload_n 2, 1) := by decide +kernel
theorem dM_instantiate_179 : decode cM_instantiate 179 = .ok (.iastore, 1) := by decide +kernel
theorem dM_instantiate_180 : decode cM_instantiate 180 = .ok (.iconst 0, 1) := by decide +kernel
theorem dM_instantiate_181 : decode cM_instantiate 181 = .ok (.istore 7, 2) := by decide +kernel
theorem dM_instantiate_183 : decode cM_instantiate 183 = .ok (.iload 7, 2) := by decide +kernel
theorem dM_instantiate_185 : decode cM_instantiate 185 = .ok (.iload_n 3, 1) := by decide +kernel
theorem dM_instantiate_186 : decode cM_instantiate 186 = .ok (.if_icmp .ge 22, 3) := by decide +kernel
theorem dM_instantiate_189 : decode cM_instantiate 189 = .ok (.aload_n 0, 1) := by decide +kernel
theorem dM_instantiate_190 : decode cM_instantiate 190 = .ok (.getfield 26, 3) := by decide +kernel
theorem dM_instantiate_193 : decode cM_instantiate 193 = .ok (.iload 5, 2) := by decide +kernel
theorem dM_instantiate_195 : decode cM_instantiate 195 = .ok (.iconst 2, 1) := by decide +kernel
theorem dM_instantiate_196 : decode cM_instantiate 196 = .ok (.iadd, 1) := by decide +kernel
theorem dM_instantiate_197 : decode cM_instantiate 197 = .ok (.iload 7, 2) := by decide +kernel
theorem dM_instantiate_199 : decode cM_instantiate 199 = .ok (.iadd, 1) := by decide +kernel
theorem dM_instantiate_200 : decode cM_instantiate 200 = .ok (.iconst 0, 1) := by decide +kernel
theorem dM_instantiate_201 : decode cM_instantiate 201 = .ok (.iastore, 1) := by decide +kernel
theorem dM_instantiate_202 : decode cM_instantiate 202 = .ok (.iinc 7 1, 3) := by decide +kernel
theorem dM_instantiate_205 : decode cM_instantiate 205 = .ok (.goto (-22), 3) := by decide +kernel
theorem dM_instantiate_208 : decode cM_instantiate 208 = .ok (.aload_n 0, 1) := by decide +kernel
theorem dM_instantiate_209 : decode cM_instantiate 209 = .ok (.iload_n 2, 1) := by decide +kernel
theorem dM_instantiate_210 : decode cM_instantiate 210 = .ok (.invokevirtual 95, 3) := by decide +kernel
theorem dM_instantiate_213 : decode cM_instantiate 213 = .ok (.aload_n 0, 1) := by decide +kernel
theorem dM_instantiate_214 : decode cM_instantiate 214 = .ok (.getfield 7, 3) := by decide +kernel
theorem dM_instantiate_217 : decode cM_instantiate 217 = .ok (.iload_n 1, 1) := by decide +kernel
theorem dM_instantiate_218 : decode cM_instantiate 218 = .ok (.iaload, 1) := by decide +kernel
theorem dM_instantiate_219 : decode cM_instantiate 219 = .ok (.istore 7, 2) := by decide +kernel
theorem dM_instantiate_221 : decode cM_instantiate 221 = .ok (.aload_n 0, 1) := by decide +kernel
theorem dM_instantiate_222 : decode cM_instantiate 222 = .ok (.getfield 7, 3) := by decide +kernel
theorem dM_instantiate_225 : decode cM_instantiate 225 = .ok (.iload_n 1, 1) := by decide +kernel
theorem dM_instantiate_226 : decode cM_instantiate 226 = .ok (.iconst 2, 1) := by decide +kernel
theorem dM_instantiate_227 : decode cM_instantiate 227 = .ok (.iload 6, 2) := by decide +kernel
theorem dM_instantiate_229 : decode cM_instantiate 229 = .ok (.imul, 1) := by decide +kernel
theorem dM_instantiate_230 : decode cM_instantiate 230 = .ok (.iastore, 1) := by decide +kernel
theorem dM_instantiate_231 : decode cM_instantiate 231 = .ok (.aload_n 0, 1) := by decide +kernel
theorem dM_instantiate_232 : decode cM_instantiate 232 = .ok (.iload 7, 2) := by decide +kernel
theorem dM_instantiate_234 : decode cM_instantiate 234 = .ok (.iconst 2, 1) := by decide +kernel
theorem dM_instantiate_235 : decode cM_instantiate 235 = .ok (.iload 6, 2) := by decide +kernel
theorem dM_instantiate_237 : decode cM_instantiate 237 = .ok (.imul, 1) := by decide +kernel
theorem dM_instantiate_238 : decode cM_instantiate 238 = .ok (.invokevirtual 122, 3) := by decide +kernel
theorem dM_instantiate_241 : decode cM_instantiate 241 = .ok (.istore 7, 2) := by decide +kernel
theorem dM_instantiate_243 : decode cM_instantiate 243 = .ok (.iconst 2, 1) := by decide +kernel
theorem dM_instantiate_244 : decode cM_instantiate 244 = .ok (.iload 6, 2) := by decide +kernel
theorem dM_instantiate_246 : decode cM_instantiate 246 = .ok (.imul, 1) := by decide +kernel
theorem dM_instantiate_247 : decode cM_instantiate 247 = .ok (.ireturn, 1) := by decide +kernel
theorem dM_set_0 : decode cM_set 0 = .ok (.aload_n 0, 1) := by decide +kernel
theorem dM_set_1 : decode cM_set 1 = .ok (.iload_n 1, 1) := by decide +kernel
theorem dM_set_2 : decode cM_set 2 = .ok (.invokestatic 107, 3) := by decide +kernel
theorem dM_set_5 : decode cM_set 5 = .ok (.ifCond .ne 7, 3) := by decide +kernel
theorem dM_set_8 : decode cM_set 8 = .ok (.iconst 1, 1) := by decide +kernel
theorem dM_set_9 : decode cM_set 9 = .ok (.goto 16, 3) := by decide +kernel
theorem dM_set_12 : decode cM_set 12 = .ok (.aload_n 0, 1) := by decide +kernel
theorem dM_set_13 : decode cM_set 13 = .ok (.iload_n 2, 1) := by decide +kernel
theorem dM_set_14 : decode cM_set 14 = .ok (.invokevirtual 110, 3) := by decide +kernel
theorem dM_set_17 : decode cM_set 17 = .ok (.ifCond .ne 7, 3) := by decide +kernel
theorem dM_set_20 : decode cM_set 20 = .ok (.iconst 2, 1) := by decide +kernel
theorem dM_set_21 : decode cM_set 21 = .ok (.goto 4, 3) := by decide +kernel
theorem dM_set_24 : decode cM_set 24 = .ok (.iconst 0, 1) := by decide +kernel
theorem dM_set_25 : decode cM_set 25 = .ok (.putfield 58, 3) := by decide +kernel
theorem dM_set_28 : decode cM_set 28 = .ok (.aload_n 0, 1) := by decide +kernel
theorem dM_set_29 : decode cM_set 29 = .ok (.getfield 58, 3) := by decide +kernel
theorem dM_set_32 : decode cM_set 32 = .ok (.ifCond .eq 5, 3) := by decide +kernel
theorem dM_set_35 : decode cM_set 35 = .ok (.iconst 0, 1) := by decide +kernel
theorem dM_set_36 : decode cM_set 36 = .ok (.ireturn, 1) := by decide +kernel
theorem dM_set_37 : decode cM_set 37 = .ok (.aload_n 0, 1) := by decide +kernel
theorem dM_set_38 : decode cM_set 38 = .ok (.getfield 7, 3) := by decide +kernel
theorem dM_set_41 : decode cM_set 41 = .ok (.iload_n 1, 1) := by decide +kernel
theorem dM_set_42 : decode cM_set 42 = .ok (.iaload, 1) := by decide +kernel
theorem dM_set_43 : decode cM_set 43 = .ok (.istore_n 3, 1) := by decide +kernel
theorem dM_set_44 : decode cM_set 44 = .ok (.aload_n 0, 1) := by decide +kernel
theorem dM_set_45 : decode cM_set 45 = .ok (.getfield 7, 3) := by decide +kernel
theorem dM_set_48 : decode cM_set 48 = .ok (.iload_n 1, 1) := by decide +kernel
theorem dM_set_49 : decode cM_set 49 = .ok (.iload_n 2, 1) := by decide +kernel
theorem dM_set_50 : decode cM_set 50 = .ok (.iastore, 1) := by decide +kernel
theorem dM_set_51 : decode cM_set 51 = .ok (.aload_n 0, 1) := by decide +kernel
theorem dM_set_52 : decode cM_set 52 = .ok (.iload_n 3, 1) := by decide +kernel
theorem dM_set_53 : decode cM_set 53 = .ok (.iload_n 2, 1) := by decide +kernel
theorem dM_set_54 : decode cM_set 54 = .ok (.invokevirtual 122, 3) := by decide +kernel
theorem dM_set_57 : decode cM_set 57 = .ok (.ireturn, 1) := by decide +kernel
theorem dM_register_0 : decode cM_register 0 = .ok (.aload_n 0, 1) := by decide +kernel
theorem dM_register_1 : decode cM_register 1 = .ok (.iload_n 1, 1) := by decide +kernel
theorem dM_register_2 : decode cM_register 2 = .ok (.invokestatic 107, 3) := by decide +kernel
theorem dM_register_5 : decode cM_register 5 = .ok (.ifCond .eq 7, 3) := by decide +kernel
theorem dM_register_8 : decode cM_register 8 = .ok (.iconst 0, 1) := by decide +kernel
theorem dM_register_9 : decode cM_register 9 = .ok (.goto 4, 3) := by decide +kernel
theorem dM_register_12 : decode cM_register 12 = .ok (.iconst 1, 1) := by decide +kernel
theorem dM_register_13 : decode cM_register 13 = .ok (.putfield 58, 3) := by decide +kernel
theorem dM_register_16 : decode cM_register 16 = .ok (.aload_n 0, 1) := by decide +kernel
theorem dM_register_17 : decode cM_register 17 = .ok (.getfield 58, 3) := by decide +kernel
theorem dM_register_20 : decode cM_register 20 = .ok (.ifCond .ne 12, 3) := by decide +kernel
theorem dM_register_23 : decode cM_register 23 = .ok (.aload_n 0, 1) := by decide +kernel
theorem dM_register_24 : decode cM_register 24 = .ok (.getfield 7, 3) := by decide +kernel
theorem dM_register_27 : decode cM_register 27 = .ok (.iload_n 1, 1) := by decide +kernel
theorem dM_register_28 : decode cM_register 28 = .ok (.iaload, 1) := by decide +kernel
theorem dM_register_29 : decode cM_register 29 = .ok (.goto 4, 3) := by decide +kernel
theorem dM_register_32 : decode cM_register 32 = .ok (.iconst 0, 1) := by decide +kernel
theorem dM_register_33 : decode cM_register 33 = .ok (.ireturn, 1) := by decide +kernel
theorem dM_hasField_0 : decode cM_hasField 0 = .ok (.iload_n 2, 1) := by decide +kernel
theorem dM_hasField_1 : decode cM_hasField 1 = .ok (.ifCond .lt 19, 3) := by decide +kernel
theorem dM_hasField_4 : decode cM_hasField 4 = .ok (.iload_n 2, 1) := by decide +kernel
theorem dM_hasField_5 : decode cM_hasField 5 = .ok (.aload_n 0, 1) := by decide +kernel
theorem dM_hasField_6 : decode cM_hasField 6 = .ok (.getfield 20, 3) := by decide +kernel
theorem dM_hasField_9 : decode cM_hasField 9 = .ok (.iload_n 1, 1) := by decide +kernel
theorem dM_hasField_10 : decode cM_hasField 10 = .ok (.iconst 2, 1) := by decide +kernel
theorem dM_hasField_11 : decode cM_hasField 11 = .ok (.idiv, 1) := by decide +kernel
theorem dM_hasField_12 : decode cM_hasField 12 = .ok (.iaload, 1) := by decide +kernel
theorem dM_hasField_13 : decode cM_hasField 13 = .ok (.if_icmp .ge 7, 3) := by decide +kernel
theorem dM_hasField_16 : decode cM_hasField 16 = .ok (.iconst 1, 1) := by decide +kernel
theorem dM_hasField_17 : decode cM_hasField 17 = .ok (.goto 4, 3) := by decide +kernel
theorem dM_hasField_20 : decode cM_hasField 20 = .ok (.iconst 0, 1) := by decide +kernel
theorem dM_hasField_21 : decode cM_hasField 21 = .ok (.ireturn, 1) := by decide +kernel
theorem dM_fetch_0 : decode cM_fetch 0 = .ok (.aload_n 0, 1) := by decide +kernel
theorem dM_fetch_1 : decode cM_fetch 1 = .ok (.aload_n 0, 1) := by decide +kernel
theorem dM_fetch_2 : decode cM_fetch 2 = .ok (.iload_n 1, 1) := by decide +kernel
theorem dM_fetch_3 : decode cM_fetch 3 = .ok (.invokevirtual 65, 3) := by decide +kernel
theorem dM_fetch_6 : decode cM_fetch 6 = .ok (.ifCond .ne 7, 3) := by decide +kernel
theorem dM_fetch_9 : decode cM_fetch 9 = .ok (.iconst 1, 1) := by decide +kernel
theorem dM_fetch_10 : decode cM_fetch 10 = .ok (.goto 17, 3) := by decide +kernel
theorem dM_fetch_13 : decode cM_fetch 13 = .ok (.aload_n 0, 1) := by decide +kernel
theorem dM_fetch_14 : decode cM_fetch 14 = .ok (.iload_n 1, 1) := by decide +kernel
theorem dM_fetch_15 : decode cM_fetch 15 = .ok (.iload_n 2, 1) := by decide +kernel
theorem dM_fetch_16 : decode cM_fetch 16 = .ok (.invokevirtual 126, 3) := by decide +kernel
theorem dM_fetch_19 : decode cM_fetch 19 = .ok (.ifCond .ne 7, 3) := by decide +kernel
theorem dM_fetch_22 : decode cM_fetch 22 = .ok (.iconst 2, 1) := by decide +kernel
theorem dM_fetch_23 : decode cM_fetch 23 = .ok (.goto 4, 3) := by decide +kernel
theorem dM_fetch_26 : decode cM_fetch 26 = .ok (.iconst 0, 1) := by decide +kernel
theorem dM_fetch_27 : decode cM_fetch 27 = .ok (.putfield 58, 3) := by decide +kernel
theorem dM_fetch_30 : decode cM_fetch 30 = .ok (.aload_n 0, 1) := by decide +kernel
theorem dM_fetch_31 : decode cM_fetch 31 = .ok (.getfield 58, 3) := by decide +kernel
theorem dM_fetch_34 : decode cM_fetch 34 = .ok (.ifCond .ne 23, 3) := by decide +kernel
theorem dM_fetch_37 : decode cM_fetch 37 = .ok (.aload_n 0, 1) := by decide +kernel
theorem dM_fetch_38 : decode cM_fetch 38 = .ok (.getfield 26, 3) := by decide +kernel
theorem dM_fetch_41 : decode cM_fetch 41 = .ok (.aload_n 0, 1) := by decide +kernel
theorem dM_fetch_42 : decode cM_fetch 42 = .ok (.getfield 17, 3) := by decide +kernel
theorem dM_fetch_45 : decode cM_fetch 45 = .ok (.iload_n 1, 1) := by decide +kernel
theorem dM_fetch_46 : decode cM_fetch 46 = .ok (.iconst 2, 1) := by decide +kernel
theorem dM_fetch_47 : decode cM_fetch 47 = .ok (.idiv, 1) := by decide +kernel
theorem dM_fetch_48 : decode cM_fetch 48 = .ok (.iaload, 1) := by decide +kernel
theorem dM_fetch_49 : decode cM_fetch 49 = .ok (.iconst 2, 1) := by decide +kernel
theorem dM_fetch_50 : decode cM_fetch 50 = .ok (.iadd, 1) := by decide +kernel
theorem dM_fetch_51 : decode cM_fetch 51 = .ok (.iload_n 2, 1) := by decide +kernel
theorem dM_fetch_52 : decode cM_fetch 52 = .ok (.iadd, 1) := by decide +kernel
theorem dM_fetch_53 : decode cM_fetch 53 = .ok (.iaload, 1) := by decide +kernel
theorem dM_fetch_54 : decode cM_fetch 54 = .ok (.goto 4, 3) := by decide +kernel
theorem dM_fetch_57 : decode cM_fetch 57 = .ok (.iconst 0, 1) := by decide +kernel
theorem dM_fetch_58 : decode cM_fetch 58 = .ok (.ireturn, 1) := by decide +kernel
theorem dM_store_0 : decode cM_store 0 = .ok (.aload_n 0, 1) := by decide +kernel
theorem dM_store_1 : decode cM_store 1 = .ok (.aload_n 0, 1) := by decide +kernel
theorem dM_store_2 : decode cM_store 2 = .ok (.iload_n 1, 1) := by decide +kernel
theorem dM_store_3 : decode cM_store 3 = .ok (.invokevirtual 65, 3) := by decide +kernel
theorem dM_store_6 : decode cM_store 6 = .ok (.ifCond .ne 7, 3) := by decide +kernel
theorem dM_store_9 : decode cM_store 9 = .ok (.iconst 1, 1) := by decide +kernel
theorem dM_store_10 : decode cM_store 10 = .ok (.goto 29, 3) := by decide +kernel
theorem dM_store_13 : decode cM_store 13 = .ok (.aload_n 0, 1) := by decide +kernel
theorem dM_store_14 : decode cM_store 14 = .ok (.iload_n 1, 1) := by decide +kernel
theorem dM_store_15 : decode cM_store 15 = .ok (.iload_n 2, 1) := by decide +kernel
theorem dM_store_16 : decode cM_store 16 = .ok (.invokevirtual 126, 3) := by decide +kernel
theorem dM_store_19 : decode cM_store 19 = .ok (.ifCond .ne 7, 3) := by decide +kernel
theorem dM_store_22 : decode cM_store 22 = .ok (.iconst 2, 1) := by decide +kernel
theorem dM_store_23 : decode cM_store 23 = .ok (.goto 16, 3) := by decide +kernel
theorem dM_store_26 : decode cM_store 26 = .ok (.aload_n 0, 1) := by decide +kernel
theorem dM_store_27 : decode cM_store 27 = .ok (.iload_n 3, 1) := by decide +kernel
theorem dM_store_28 : decode cM_store 28 = .ok (.invokevirtual 110, 3) := by decide +kernel
theorem dM_store_31 : decode cM_store 31 = .ok (.ifCond .ne 7, 3) := by decide +kernel
theorem dM_store_34 : decode cM_store 34 = .ok (.iconst 1, 1) := by decide +kernel
theorem dM_store_35 : decode cM_store 35 = .ok (.goto 4, 3) := by decide +kernel
theorem dM_store_38 : decode cM_store 38 = .ok (.iconst 0, 1) := by decide +kernel
theorem dM_store_39 : decode cM_store 39 = .ok (.putfield 58, 3) := by decide +kernel
theorem dM_store_42 : decode cM_store 42 = .ok (.aload_n 0, 1) := by decide +kernel
theorem dM_store_43 : decode cM_store 43 = .ok (.getfield 58, 3) := by decide +kernel
theorem dM_store_46 : decode cM_store 46 = .ok (.ifCond .eq 5, 3) := by decide +kernel
theorem dM_store_49 : decode cM_store 49 = .ok (.iconst 0, 1) := by decide +kernel
theorem dM_store_50 : decode cM_store 50 = .ok (.ireturn, 1) := by decide +kernel
theorem dM_store_51 : decode cM_store 51 = .ok (.aload_n 0, 1) := by decide +kernel
theorem dM_store_52 : decode cM_store 52 = .ok (.getfield 17, 3) := by decide +kernel
theorem dM_store_55 : decode cM_store 55 = .ok (.iload_n 1, 1) := by decide +kernel
theorem dM_store_56 : decode cM_store 56 = .ok (.iconst 2, 1) := by decide +kernel
theorem dM_store_57 : decode cM_store 57 = .ok (.idiv, 1) := by decide +kernel
theorem dM_store_58 : decode cM_store 58 = .ok (.iaload, 1) := by decide +kernel
theorem dM_store_59 : decode cM_store 59 = .ok (.iconst 2, 1) := by decide +kernel
theorem dM_store_60 : decode cM_store 60 = .ok (.iadd, 1) := by decide +kernel
theorem dM_store_61 : decode cM_store 61 = .ok (.iload_n 2, 1) := by decide +kernel
theorem dM_store_62 : decode cM_store 62 = .ok (.iadd, 1) := by decide +kernel
theorem dM_store_63 : decode cM_store 63 = .ok (.istore 4, 2) := by decide +kernel
theorem dM_store_65 : decode cM_store 65 = .ok (.aload_n 0, 1) := by decide +kernel
theorem dM_store_66 : decode cM_store 66 = .ok (.getfield 26, 3) := by decide +kernel
theorem dM_store_69 : decode cM_store 69 = .ok (.iload 4, 2) := by decide +kernel
theorem dM_store_71 : decode cM_store 71 = .ok (.iaload, 1) := by decide +kernel
theorem dM_store_72 : decode cM_store 72 = .ok (.istore 5, 2) := by decide +kernel
theorem dM_store_74 : decode cM_store 74 = .ok (.aload_n 0, 1) := by decide +kernel
theorem dM_store_75 : decode cM_store 75 = .ok (.getfield 26, 3) := by decide +kernel
theorem dM_store_78 : decode cM_store 78 = .ok (.iload 4, 2) := by decide +kernel
theorem dM_store_80 : decode cM_store 80 = .ok (.iload_n 3, 1) := by decide +kernel
theorem dM_store_81 : decode cM_store 81 = .ok (.iastore, 1) := by decide +kernel
theorem dM_store_82 : decode cM_store 82 = .ok (.aload_n 0, 1) := by decide +kernel
theorem dM_store_83 : decode cM_store 83 = .ok (.iload 5, 2) := by decide +kernel
theorem dM_store_85 : decode cM_store 85 = .ok (.iload_n 3, 1) := by decide +kernel
theorem dM_store_86 : decode cM_store 86 = .ok (.invokevirtual 122, 3) := by decide +kernel
theorem dM_store_89 : decode cM_store 89 = .ok (.ireturn, 1) := by decide +kernel
theorem dM_type_0 : decode cM_type 0 = .ok (.aload_n 0, 1) := by decide +kernel
theorem dM_type_1 : decode cM_type 1 = .ok (.aload_n 0, 1) := by decide +kernel
theorem dM_type_2 : decode cM_type 2 = .ok (.iload_n 1, 1) := by decide +kernel
theorem dM_type_3 : decode cM_type 3 = .ok (.invokevirtual 65, 3) := by decide +kernel
theorem dM_type_6 : decode cM_type 6 = .ok (.ifCond .eq 7, 3) := by decide +kernel
theorem dM_type_9 : decode cM_type 9 = .ok (.iconst 0, 1) := by decide +kernel
theorem dM_type_10 : decode cM_type 10 = .ok (.goto 4, 3) := by decide +kernel
theorem dM_type_13 : decode cM_type 13 = .ok (.iconst 1, 1) := by decide +kernel
theorem dM_type_14 : decode cM_type 14 = .ok (.putfield 58, 3) := by decide +kernel
theorem dM_type_17 : decode cM_type 17 = .ok (.aload_n 0, 1) := by decide +kernel
theorem dM_type_18 : decode cM_type 18 = .ok (.getfield 58, 3) := by decide +kernel
theorem dM_type_21 : decode cM_type 21 = .ok (.ifCond .ne 21, 3) := by decide +kernel
theorem dM_type_24 : decode cM_type 24 = .ok (.aload_n 0, 1) := by decide +kernel
theorem dM_type_25 : decode cM_type 25 = .ok (.getfield 26, 3) := by decide +kernel
theorem dM_type_28 : decode cM_type 28 = .ok (.aload_n 0, 1) := by decide +kernel
theorem dM_type_29 : decode cM_type 29 = .ok (.getfield 17, 3) := by decide +kernel
theorem dM_type_32 : decode cM_type 32 = .ok (.iload_n 1, 1) := by decide +kernel
theorem dM_type_33 : decode cM_type 33 = .ok (.iconst 2, 1) := by decide +kernel
theorem dM_type_34 : decode cM_type 34 = .ok (.idiv, 1) := by decide +kernel
theorem dM_type_35 : decode cM_type 35 = .ok (.iaload, 1) := by decide +kernel
theorem dM_type_36 : decode cM_type 36 = .ok (.iconst 1, 1) := by decide +kernel
theorem dM_type_37 : decode cM_type 37 = .ok (.iadd, 1) := by decide +kernel
theorem dM_type_38 : decode cM_type 38 = .ok (.iaload, 1) := by decide +kernel
theorem dM_type_39 : decode cM_type 39 = .ok (.goto 4, 3) := by decide +kernel
theorem dM_type_42 : decode cM_type 42 = .ok (.iconst 0, 1) := by decide +kernel
theorem dM_type_43 : decode cM_type 43 = .ok (.ireturn, 1) := by decide +kernel
theorem dM_fields_0 : decode cM_fields 0 = .ok (.aload_n 0, 1) := by decide +kernel
theorem dM_fields_1 : decode cM_fields 1 = .ok (.aload_n 0, 1) := by decide +kernel
theorem dM_fields_2 : decode cM_fields 2 = .ok (.iload_n 1, 1) := by decide +kernel
theorem dM_fields_3 : decode cM_fields 3 = .ok (.invokevirtual 65, 3) := by decide +kernel
theorem dM_fields_6 : decode cM_fields 6 = .ok (.ifCond .eq 7, 3) := by decide +kernel
theorem dM_fields_9 : decode cM_fields 9 = .ok (.iconst 0, 1) := by decide +kernel
theorem dM_fields_10 : decode cM_fields 10 = .ok (.goto 4, 3) := by decide +kernel
theorem dM_fields_13 : decode cM_fields 13 = .ok (.iconst 1, 1) := by decide +kernel
theorem dM_fields_14 : decode cM_fields 14 = .ok (.putfield 58, 3) := by decide +kernel
theorem dM_fields_17 : decode cM_fields 17 = .ok (.aload_n 0, 1) := by decide +kernel
theorem dM_fields_18 : decode cM_fields 18 = .ok (.getfield 58, 3) := by decide +kernel
theorem dM_fields_21 : decode cM_fields 21 = .ok (.ifCond .ne 14, 3) := by decide +kernel
theorem dM_fields_24 : decode cM_fields 24 = .ok (.aload_n 0, 1) := by decide +kernel
theorem dM_fields_25 : decode cM_fields 25 = .ok (.getfield 20, 3) := by decide +kernel
theorem dM_fields_28 : decode cM_fields 28 = .ok (.iload_n 1, 1) := by decide +kernel
theorem dM_fields_29 : decode cM_fields 29 = .ok (.iconst 2, 1) := by decide +kernel
theorem dM_fields_30 : decode cM_fields 30 = .ok (.idiv, 1) := by decide +kernel
theorem dM_fields_31 : decode cM_fields 31 = .ok (.iaload, 1) := by decide +kernel
theorem dM_fields_32 : decode cM_fields 32 = .ok (.goto 4, 3) := by decide +kernel
theorem dM_fields_35 : decode cM_fields 35 = .ok (.iconst 0, 1) := by decide +kernel
theorem dM_fields_36 : decode cM_fields 36 = .ok (.ireturn, 1) := by decide +kernel
theorem dM_become_0 : decode cM_become 0 = .ok (.aload_n 0, 1) := by decide +kernel
theorem dM_become_1 : decode cM_become 1 = .ok (.aload_n 0, 1) := by decide +kernel
theorem dM_become_2 : decode cM_become 2 = .ok (.iload_n 1, 1) := by decide +kernel
theorem dM_become_3 : decode cM_become 3 = .ok (.invokevirtual 65, 3) := by decide +kernel
theorem dM_become_6 : decode cM_become 6 = .ok (.ifCond .eq 15, 3) := by decide +kernel
theorem dM_become_9 : decode cM_become 9 = .ok (.aload_n 0, 1) := by decide +kernel
theorem dM_become_10 : decode cM_become 10 = .ok (.iload_n 2, 1) := by decide +kernel
theorem dM_become_11 : decode cM_become 11 = .ok (.invokevirtual 65, 3) := by decide +kernel
theorem dM_become_14 : decode cM_become 14 = .ok (.ifCond .eq 7, 3) := by decide +kernel
theorem dM_become_17 : decode cM_become 17 = .ok (.iconst 0, 1) := by decide +kernel
theorem dM_become_18 : decode cM_become 18 = .ok (.goto 4, 3) := by decide +kernel
theorem dM_become_21 : decode cM_become 21 = .ok (.iconst 1, 1) := by decide +kernel
theorem dM_become_22 : decode cM_become 22 = .ok (.putfield 58, 3) := by decide +kernel
theorem dM_become_25 : decode cM_become 25 = .ok (.aload_n 0, 1) := by decide +kernel
theorem dM_become_26 : decode cM_become 26 = .ok (.getfield 58, 3) := by decide +kernel
theorem dM_become_29 : decode cM_become 29 = .ok (.ifCond .ne 73, 3) := by decide +kernel
theorem dM_become_32 : decode cM_become 32 = .ok (.aload_n 0, 1) := by decide +kernel
theorem dM_become_33 : decode cM_become 33 = .ok (.getfield 17, 3) := by decide +kernel
theorem dM_become_36 : decode cM_become 36 = .ok (.iload_n 1, 1) := by decide +kernel
theorem dM_become_37 : decode cM_become 37 = .ok (.iconst 2, 1) := by decide +kernel
theorem dM_become_38 : decode cM_become 38 = .ok (.idiv, 1) := by decide +kernel
theorem dM_become_39 : decode cM_become 39 = .ok (.iaload, 1) := by decide +kernel
theorem dM_become_40 : decode cM_become 40 = .ok (.istore_n 3, 1) := by decide +kernel
theorem dM_become_41 : decode cM_become 41 = .ok (.aload_n 0, 1) := by decide +kernel
theorem dM_become_42 : decode cM_become 42 = .ok (.getfield 20, 3) := by decide +kernel
theorem dM_become_45 : decode cM_become 45 = .ok (.iload_n 1, 1) := by decide +kernel
theorem dM_become_46 : decode cM_become 46 = .ok (.iconst 2, 1) := by decide +kernel
theorem dM_become_47 : decode cM_become 47 = .ok (.idiv, 1) := by decide +kernel
theorem dM_become_48 : decode cM_become 48 = .ok (.iaload, 1) := by decide +kernel
theorem dM_become_49 : decode cM_become 49 = .ok (.istore 4, 2) := by decide +kernel
theorem dM_become_51 : decode cM_become 51 = .ok (.aload_n 0, 1) := by decide +kernel
theorem dM_become_52 : decode cM_become 52 = .ok (.getfield 17, 3) := by decide +kernel
theorem dM_become_55 : decode cM_become 55 = .ok (.iload_n 1, 1) := by decide +kernel
theorem dM_become_56 : decode cM_become 56 = .ok (.iconst 2, 1) := by decide +kernel
theorem dM_become_57 : decode cM_become 57 = .ok (.idiv, 1) := by decide +kernel
theorem dM_become_58 : decode cM_become 58 = .ok (.aload_n 0, 1) := by decide +kernel
theorem dM_become_59 : decode cM_become 59 = .ok (.getfield 17, 3) := by decide +kernel
theorem dM_become_62 : decode cM_become 62 = .ok (.iload_n 2, 1) := by decide +kernel
theorem dM_become_63 : decode cM_become 63 = .ok (.iconst 2, 1) := by decide +kernel
theorem dM_become_64 : decode cM_become 64 = .ok (.idiv, 1) := by decide +kernel
theorem dM_become_65 : decode cM_become 65 = .ok (.iaload, 1) := by decide +kernel
theorem dM_become_66 : decode cM_become 66 = .ok (.iastore, 1) := by decide +kernel
theorem dM_become_67 : decode cM_become 67 = .ok (.aload_n 0, 1) := by decide +kernel
theorem dM_become_68 : decode cM_become 68 = .ok (.getfield 20, 3) := by decide +kernel
theorem dM_become_71 : decode cM_become 71 = .ok (.iload_n 1, 1) := by decide +kernel
theorem dM_become_72 : decode cM_become 72 = .ok (.iconst 2, 1) := by decide +kernel
theorem dM_become_73 : decode cM_become 73 = .ok (.idiv, 1) := by decide +kernel
theorem dM_become_74 : decode cM_become 74 = .ok (.aload_n 0, 1) := by decide +kernel
theorem dM_become_75 : decode cM_become 75 = .ok (.getfield 20, 3) := by decide +kernel
theorem dM_become_78 : decode cM_become 78 = .ok (.iload_n 2, 1) := by decide +kernel
theorem dM_become_79 : decode cM_become 79 = .ok (.iconst 2, 1) := by decide +kernel
theorem dM_become_80 : decode cM_become 80 = .ok (.idiv, 1) := by decide +kernel
theorem dM_become_81 : decode cM_become 81 = .ok (.iaload, 1) := by decide +kernel
theorem dM_become_82 : decode cM_become 82 = .ok (.iastore, 1) := by decide +kernel
theorem dM_become_83 : decode cM_become 83 = .ok (.aload_n 0, 1) := by decide +kernel
theorem dM_become_84 : decode cM_become 84 = .ok (.getfield 17, 3) := by decide +kernel
theorem dM_become_87 : decode cM_become 87 = .ok (.iload_n 2, 1) := by decide +kernel
theorem dM_become_88 : decode cM_become 88 = .ok (.iconst 2, 1) := by decide +kernel
theorem dM_become_89 : decode cM_become 89 = .ok (.idiv, 1) := by decide +kernel
theorem dM_become_90 : decode cM_become 90 = .ok (.iload_n 3, 1) := by decide +kernel
theorem dM_become_91 : decode cM_become 91 = .ok (.iastore, 1) := by decide +kernel
theorem dM_become_92 : decode cM_become 92 = .ok (.aload_n 0, 1) := by decide +kernel
theorem dM_become_93 : decode cM_become 93 = .ok (.getfield 20, 3) := by decide +kernel
theorem dM_become_96 : decode cM_become 96 = .ok (.iload_n 2, 1) := by decide +kernel
theorem dM_become_97 : decode cM_become 97 = .ok (.iconst 2, 1) := by decide +kernel
theorem dM_become_98 : decode cM_become 98 = .ok (.idiv, 1) := by decide +kernel
theorem dM_become_99 : decode cM_become 99 = .ok (.iload 4, 2) := by decide +kernel
theorem dM_become_101 : decode cM_become 101 = .ok (.iastore, 1) := by decide +kernel
theorem dM_become_102 : decode cM_become 102 = .ok (.return_, 1) := by decide +kernel
theorem dM_collect_0 : decode cM_collect 0 = .ok (.aload_n 0, 1) := by decide +kernel
theorem dM_collect_1 : decode cM_collect 1 = .ok (.iconst 0, 1) := by decide +kernel
theorem dM_collect_2 : decode cM_collect 2 = .ok (.putfield 58, 3) := by decide +kernel
theorem dM_collect_5 : decode cM_collect 5 = .ok (.aload_n 0, 1) := by decide +kernel
theorem dM_collect_6 : decode cM_collect 6 = .ok (.iconst 0, 1) := by decide +kernel
theorem dM_collect_7 : decode cM_collect 7 = .ok (.invokevirtual 116, 3) := by decide +kernel
theorem dM_collect_10 : decode cM_collect 10 = .ok (.ireturn, 1) := by decide +kernel
theorem dM_compact_0 : decode cM_compact 0 = .ok (.aload_n 0, 1) := by decide +kernel
theorem dM_compact_1 : decode cM_compact 1 = .ok (.iconst 0, 1) := by decide +kernel
theorem dM_compact_2 : decode cM_compact 2 = .ok (.putfield 58, 3) := by decide +kernel
theorem dM_compact_5 : decode cM_compact 5 = .ok (.aload_n 0, 1) := by decide +kernel
theorem dM_compact_6 : decode cM_compact 6 = .ok (.invokevirtual 82, 3) := by decide +kernel
theorem dM_compact_9 : decode cM_compact 9 = .ok (.ireturn, 1) := by decide +kernel
theorem dM_exists_0 : decode cM_exists 0 = .ok (.aload_n 0, 1) := by decide +kernel
theorem dM_exists_1 : decode cM_exists 1 = .ok (.iconst 0, 1) := by decide +kernel
theorem dM_exists_2 : decode cM_exists 2 = .ok (.putfield 58, 3) := by decide +kernel
theorem dM_exists_5 : decode cM_exists 5 = .ok (.aload_n 0, 1) := by decide +kernel
theorem dM_exists_6 : decode cM_exists 6 = .ok (.iload_n 1, 1) := by decide +kernel
theorem dM_exists_7 : decode cM_exists 7 = .ok (.invokevirtual 65, 3) := by decide +kernel
theorem dM_exists_10 : decode cM_exists 10 = .ok (.ireturn, 1) := by decide +kernel
theorem dM_count_0 : decode cM_count 0 = .ok (.aload_n 0, 1) := by decide +kernel
theorem dM_count_1 : decode cM_count 1 = .ok (.iconst 0, 1) := by decide +kernel
theorem dM_count_2 : decode cM_count 2 = .ok (.putfield 58, 3) := by decide +kernel
theorem dM_count_5 : decode cM_count 5 = .ok (.aload_n 0, 1) := by decide +kernel
theorem dM_count_6 : decode cM_count 6 = .ok (.iload_n 1, 1) := by decide +kernel
theorem dM_count_7 : decode cM_count 7 = .ok (.invokevirtual 65, 3) := by decide +kernel
theorem dM_count_10 : decode cM_count 10 = .ok (.ifCond .eq 14, 3) := by decide +kernel
theorem dM_count_13 : decode cM_count 13 = .ok (.aload_n 0, 1) := by decide +kernel
theorem dM_count_14 : decode cM_count 14 = .ok (.getfield 23, 3) := by decide +kernel
theorem dM_count_17 : decode cM_count 17 = .ok (.iload_n 1, 1) := by decide +kernel
theorem dM_count_18 : decode cM_count 18 = .ok (.iconst 2, 1) := by decide +kernel
theorem dM_count_19 : decode cM_count 19 = .ok (.idiv, 1) := by decide +kernel
theorem dM_count_20 : decode cM_count 20 = .ok (.iaload, 1) := by decide +kernel
theorem dM_count_21 : decode cM_count 21 = .ok (.goto 4, 3) := by decide +kernel
theorem dM_count_24 : decode cM_count 24 = .ok (.iconst 0, 1) := by decide +kernel
theorem dM_count_25 : decode cM_count 25 = .ok (.ireturn, 1) := by decide +kernel
theorem dM_address_0 : decode cM_address 0 = .ok (.aload_n 0, 1) := by decide +kernel
theorem dM_address_1 : decode cM_address 1 = .ok (.iconst 0, 1) := by decide +kernel
theorem dM_address_2 : decode cM_address 2 = .ok (.putfield 58, 3) := by decide +kernel
theorem dM_address_5 : decode cM_address 5 = .ok (.aload_n 0, 1) := by decide +kernel
theorem dM_address_6 : decode cM_address 6 = .ok (.iload_n 1, 1) := by decide +kernel
theorem dM_address_7 : decode cM_address 7 = .ok (.invokevirtual 65, 3) := by decide +kernel
theorem dM_address_10 : decode cM_address 10 = .ok (.ifCond .eq 14, 3) := by decide +kernel
theorem dM_address_13 : decode cM_address 13 = .ok (.aload_n 0, 1) := by decide +kernel
theorem dM_address_14 : decode cM_address 14 = .ok (.getfield 17, 3) := by decide +kernel
theorem dM_address_17 : decode cM_address 17 = .ok (.iload_n 1, 1) := by decide +kernel
theorem dM_address_18 : decode cM_address 18 = .ok (.iconst 2, 1) := by decide +kernel
theorem dM_address_19 : decode cM_address 19 = .ok (.idiv, 1) := by decide +kernel
theorem dM_address_20 : decode cM_address 20 = .ok (.iaload, 1) := by decide +kernel
theorem dM_address_21 : decode cM_address 21 = .ok (.goto 4, 3) := by decide +kernel
theorem dM_address_24 : decode cM_address 24 = .ok (.iconst (-1), 1) := by decide +kernel
theorem dM_address_25 : decode cM_address 25 = .ok (.ireturn, 1) := by decide +kernel
theorem dM_chunks_0 : decode cM_chunks 0 = .ok (.aload_n 0, 1) := by decide +kernel
theorem dM_chunks_1 : decode cM_chunks 1 = .ok (.iconst 0, 1) := by decide +kernel
theorem dM_chunks_2 : decode cM_chunks 2 = .ok (.putfield 58, 3) := by decide +kernel
theorem dM_chunks_5 : decode cM_chunks 5 = .ok (.iconst 0, 1) := by decide +kernel
theorem dM_chunks_6 : decode cM_chunks 6 = .ok (.istore_n 2, 1) := by decide +kernel
theorem dM_chunks_7 : decode cM_chunks 7 = .ok (.iconst 0, 1) := by decide +kernel
theorem dM_chunks_8 : decode cM_chunks 8 = .ok (.istore_n 3, 1) := by decide +kernel
theorem dM_chunks_9 : decode cM_chunks 9 = .ok (.iload_n 3, 1) := by decide +kernel
theorem dM_chunks_10 : decode cM_chunks 10 = .ok (.aload_n 0, 1) := by decide +kernel
theorem dM_chunks_11 : decode cM_chunks 11 = .ok (.getfield 68, 3) := by decide +kernel
theorem dM_chunks_14 : decode cM_chunks 14 = .ok (.if_icmp .ge 31, 3) := by decide +kernel
theorem dM_chunks_17 : decode cM_chunks 17 = .ok (.iload_n 1, 1) := by decide +kernel
theorem dM_chunks_18 : decode cM_chunks 18 = .ok (.ifCond .eq 13, 3) := by decide +kernel
theorem dM_chunks_21 : decode cM_chunks 21 = .ok (.aload_n 0, 1) := by decide +kernel
theorem dM_chunks_22 : decode cM_chunks 22 = .ok (.getfield 32, 3) := by decide +kernel
theorem dM_chunks_25 : decode cM_chunks 25 = .ok (.iload_n 3, 1) := by decide +kernel
theorem dM_chunks_26 : decode cM_chunks 26 = .ok (.iaload, 1) := by decide +kernel
theorem dM_chunks_27 : decode cM_chunks 27 = .ok (.iload_n 1, 1) := by decide +kernel
theorem dM_chunks_28 : decode cM_chunks 28 = .ok (.if_icmp .ne 9, 3) := by decide +kernel
theorem dM_chunks_31 : decode cM_chunks 31 = .ok (.iload_n 2, 1) := by decide +kernel
theorem dM_chunks_32 : decode cM_chunks 32 = .ok (.iconst 1, 1) := by decide +kernel
theorem dM_chunks_33 : decode cM_chunks 33 = .ok (.iadd, 1) := by decide +kernel
theorem dM_chunks_34 : decode cM_chunks 34 = .ok (.goto 4, 3) := by decide +kernel
theorem dM_chunks_37 : decode cM_chunks 37 = .ok (.iload_n 2, 1) := by decide +kernel
theorem dM_chunks_38 : decode cM_chunks 38 = .ok (.istore_n 2, 1) := by decide +kernel
theorem dM_chunks_39 : decode cM_chunks 39 = .ok (.iinc 3 1, 3) := by decide +kernel
theorem dM_chunks_42 : decode cM_chunks 42 = .ok (.goto (-33), 3) := by decide +kernel
theorem dM_chunks_45 : decode cM_chunks 45 = .ok (.iload_n 2, 1) := by decide +kernel
theorem dM_chunks_46 : decode cM_chunks 46 = .ok (.ireturn, 1) := by decide +kernel
theorem dM_free_0 : decode cM_free 0 = .ok (.aload_n 0, 1) := by decide +kernel
theorem dM_free_1 : decode cM_free 1 = .ok (.iconst 0, 1) := by decide +kernel
theorem dM_free_2 : decode cM_free 2 = .ok (.putfield 58, 3) := by decide +kernel
theorem dM_free_5 : decode cM_free 5 = .ok (.aload_n 0, 1) := by decide +kernel
theorem dM_free_6 : decode cM_free 6 = .ok (.invokevirtual 78, 3) := by decide +kernel
theorem dM_free_9 : decode cM_free 9 = .ok (.ireturn, 1) := by decide +kernel
theorem dM_objects_0 : decode cM_objects 0 = .ok (.aload_n 0, 1) := by decide +kernel
theorem dM_objects_1 : decode cM_objects 1 = .ok (.iconst 0, 1) := by decide +kernel
theorem dM_objects_2 : decode cM_objects 2 = .ok (.putfield 58, 3) := by decide +kernel
theorem dM_objects_5 : decode cM_objects 5 = .ok (.iconst 0, 1) := by decide +kernel
theorem dM_objects_6 : decode cM_objects 6 = .ok (.istore_n 1, 1) := by decide +kernel
theorem dM_objects_7 : decode cM_objects 7 = .ok (.iconst 1, 1) := by decide +kernel
theorem dM_objects_8 : decode cM_objects 8 = .ok (.istore_n 2, 1) := by decide +kernel
theorem dM_objects_9 : decode cM_objects 9 = .ok (.iload_n 2, 1) := by decide +kernel
theorem dM_objects_10 : decode cM_objects 10 = .ok (.aload_n 0, 1) := by decide +kernel
theorem dM_objects_11 : decode cM_objects 11 = .ok (.getfield 51, 3) := by decide +kernel
theorem dM_objects_14 : decode cM_objects 14 = .ok (.if_icmp .gt 26, 3) := by decide +kernel
theorem dM_objects_17 : decode cM_objects 17 = .ok (.aload_n 0, 1) := by decide +kernel
theorem dM_objects_18 : decode cM_objects 18 = .ok (.getfield 13, 3) := by decide +kernel
theorem dM_objects_21 : decode cM_objects 21 = .ok (.iload_n 2, 1) := by decide +kernel
theorem dM_objects_22 : decode cM_objects 22 = .ok (.baload, 1) := by decide +kernel
theorem dM_objects_23 : decode cM_objects 23 = .ok (.ifCond .eq 9, 3) := by decide +kernel
theorem dM_objects_26 : decode cM_objects 26 = .ok (.iload_n 1, 1) := by decide +kernel
theorem dM_objects_27 : decode cM_objects 27 = .ok (.iconst 1, 1) := by decide +kernel
theorem dM_objects_28 : decode cM_objects 28 = .ok (.iadd, 1) := by decide +kernel
theorem dM_objects_29 : decode cM_objects 29 = .ok (.goto 4, 3) := by decide +kernel
theorem dM_objects_32 : decode cM_objects 32 = .ok (.iload_n 1, 1) := by decide +kernel
theorem dM_objects_33 : decode cM_objects 33 = .ok (.istore_n 1, 1) := by decide +kernel
theorem dM_objects_34 : decode cM_objects 34 = .ok (.iinc 2 1, 3) := by decide +kernel
theorem dM_objects_37 : decode cM_objects 37 = .ok (.goto (-28), 3) := by decide +kernel
theorem dM_objects_40 : decode cM_objects 40 = .ok (.iload_n 1, 1) := by decide +kernel
theorem dM_objects_41 : decode cM_objects 41 = .ok (.ireturn, 1) := by decide +kernel
end
section
/-- CountedObjectsModel.thrown()I: a step from head to head -/
def sp_M_thrown (post : Int32 → GS → Prop) (V : Nat → GS → List Int32 → Prop) (h : Nat) (S : GS) (xs : List Int32) : Prop := match h, xs with
  | 0, [] => post (S 100 0) S
  | _, _ => False
def wp_M_thrown (xs : List Int32) (S : GS) (post : Int32 → GS → Prop) : Prop := ∀ V : Nat → GS → List Int32 → Prop, (∀ h S xs, sp_M_thrown post V h S xs → V h S xs) → V 0 S xs
def vh_M_thrown (o : Nat → Nat) (G : GS → Nat → List (Nat × Value) → List Value → Prop) (h : Nat) (S : GS) (xs : List Int32) : Prop := match h, xs with
  | 0, [] => G S 0 [(0, .ref (o 0))] []
  | _, _ => True
set_option maxHeartbeats 4000000 in
set_option maxRecDepth 100000 in
theorem wk_M_thrown_0 {l : Launch} {dC : Nat → ClassId} {dI : Nat → Nat → Nat} {cI cZ : ClassId} {o : Nat → Nat}  {p : Program} {e : Env} {s : State} {m : MethodId} {args : Array Value} {below : List Frame} {meth : Method} {c : Code} {A : Nat → Prop} {post : Int32 → GS → Prop} (C : GC p s m args c cM_thrown 1 RM wsA (dC, dI) gx_cl [(cI, .int), (cZ, .boolean)] A) (hr : meth.sig.returnType = (some .int)) (hlocks : meth.locks = false) (S : GS) (hs : sp_M_thrown post (vh_M_thrown o (GV p l e ({ frames := 0, cells := 0, slots := 0, locals := 0 }) s m args below meth c (MQ below (va_Qi post (GB (mw cI cZ o) (dC, dI) gx_cl [(cI, .int), (cZ, .boolean)] A) A) args s 0 0 A) 1 (dC, dI) gx_cl A (mw cI cZ o))) 0 S []) : GV p l e ({ frames := 0, cells := 0, slots := 0, locals := 0 }) s m args below meth c (MQ below (va_Qi post (GB (mw cI cZ o) (dC, dI) gx_cl [(cI, .int), (cZ, .boolean)] A) A) args s 0 0 A) 1 (dC, dI) gx_cl A (mw cI cZ o) S 0 [(0, .ref (o 0))] [] := by
  refine gx_aload_n C dM_thrown_0 0 rfl rfl ?_
  refine gx_get C mo_this hi_M 0 (by decide) fl_M_58 rfl dM_thrown_1 ?_
  exact gx_iret C hr hlocks dM_thrown_4 hs
set_option maxHeartbeats 4000000 in
set_option maxRecDepth 100000 in
theorem mt_M_thrown (l : Launch) (dC : Nat → ClassId) (dI : Nat → Nat → Nat) (cI cZ : ClassId) (o : Nat → Nat) (S : GS) (post : Int32 → GS → Prop) (h : wp_M_thrown [] S post) : MetI l yM_thrown (Cond.code yM_thrown cM_thrown 1 (some .int) :: wsA) ({ frames := 0, cells := 0, slots := 0, locals := 0 }) (dC, dI) gx_cl [(cI, .int), (cZ, .boolean)] (mw cI cZ o) [.ref (o 0)] S post := by
  refine gx_metI (by decide) wsA_good (Nat.le_of_ble_eq_true rfl) ?_
  intro p e s m args below meth c A C hr hlocks
  refine h (vh_M_thrown o (GV p l e ({ frames := 0, cells := 0, slots := 0, locals := 0 }) s m args below meth c (MQ below (va_Qi post (GB (mw cI cZ o) (dC, dI) gx_cl [(cI, .int), (cZ, .boolean)] A) A) args s 0 0 A) 1 (dC, dI) gx_cl A (mw cI cZ o))) (fun h S xs hs => ?_)
  unfold sp_M_thrown at hs
  split at hs
  · exact wk_M_thrown_0 C hr hlocks _ hs
  · exact hs.elim
/-- CountedObjectsModel.leads(I)Z: a step from head to head -/
def sp_M_leads (post : Int32 → GS → Prop) (V : Nat → GS → List Int32 → Prop) (h : Nat) (S : GS) (xs : List Int32) : Prop := match h, xs with
  | 0, [v0] => ((v0 = 0 → post 0 S) ∧ (¬ v0 = 0 → ((¬ (v0 &&& 1) = 0 → post 0 S) ∧ ((v0 &&& 1) = 0 → post 1 S))))
  | _, _ => False
def wp_M_leads (xs : List Int32) (S : GS) (post : Int32 → GS → Prop) : Prop := ∀ V : Nat → GS → List Int32 → Prop, (∀ h S xs, sp_M_leads post V h S xs → V h S xs) → V 0 S xs
def vh_M_leads (o : Nat → Nat) (G : GS → Nat → List (Nat × Value) → List Value → Prop) (h : Nat) (S : GS) (xs : List Int32) : Prop := match h, xs with
  | 0, [v0] => G S 0 [(0, .int v0)] []
  | _, _ => True
set_option maxHeartbeats 4000000 in
set_option maxRecDepth 100000 in
theorem wk_M_leads_0 {l : Launch} {dC : Nat → ClassId} {dI : Nat → Nat → Nat} {cI cZ : ClassId} {o : Nat → Nat}  {p : Program} {e : Env} {s : State} {m : MethodId} {args : Array Value} {below : List Frame} {meth : Method} {c : Code} {A : Nat → Prop} {post : Int32 → GS → Prop} (C : GC p s m args c cM_leads 1 RM wsA (dC, dI) gx_cl [(cI, .int), (cZ, .boolean)] A) (hr : meth.sig.returnType = (some .boolean)) (hlocks : meth.locks = false) (S : GS) (v0 : Int32) (hs : sp_M_leads post (vh_M_leads o (GV p l e ({ frames := 0, cells := 0, slots := 0, locals := 0 }) s m args below meth c (MQ below (va_Qi post (GB (mw cI cZ o) (dC, dI) gx_cl [(cI, .int), (cZ, .boolean)] A) A) args s 0 0 A) 1 (dC, dI) gx_cl A (mw cI cZ o))) 0 S [v0]) : GV p l e ({ frames := 0, cells := 0, slots := 0, locals := 0 }) s m args below meth c (MQ below (va_Qi post (GB (mw cI cZ o) (dC, dI) gx_cl [(cI, .int), (cZ, .boolean)] A) A) args s 0 0 A) 1 (dC, dI) gx_cl A (mw cI cZ o) S 0 [(0, .int v0)] [] := by
  refine gx_iload_n C dM_leads_0 0 rfl rfl ?_
  obtain ⟨ht, hf⟩ := hs
  refine gx_if_eq C dM_leads_1 14 rfl (fun hc => ?_) (fun hc => ?_)
  · have hs := ht hc
    refine gx_iconst (v := 0) C dM_leads_14 (by decide) ?_
    exact gx_zret C hr hlocks dM_leads_15 hs rfl
  · have hs := hf hc
    refine gx_iload_n C dM_leads_4 0 rfl rfl ?_
    refine gx_iconst (v := 1) C dM_leads_5 (by decide) ?_
    refine gx_iand C dM_leads_6 ?_
    obtain ⟨ht, hf⟩ := hs
    refine gx_if_ne C dM_leads_7 14 rfl (fun hc => ?_) (fun hc => ?_)
    · have hs := ht hc
      refine gx_iconst (v := 0) C dM_leads_14 (by decide) ?_
      exact gx_zret C hr hlocks dM_leads_15 hs rfl
    · have hs := hf hc
      refine gx_iconst (v := 1) C dM_leads_10 (by decide) ?_
      refine gx_goto C dM_leads_11 15 rfl ?_
      exact gx_zret C hr hlocks dM_leads_15 hs rfl
set_option maxHeartbeats 4000000 in
set_option maxRecDepth 100000 in
theorem mt_M_leads (l : Launch) (dC : Nat → ClassId) (dI : Nat → Nat → Nat) (cI cZ : ClassId) (o : Nat → Nat) (v0 : Int32) (S : GS) (post : Int32 → GS → Prop) (h : wp_M_leads [v0] S post) : MetI l yM_leads (Cond.code yM_leads cM_leads 1 (some .boolean) :: wsA) ({ frames := 0, cells := 0, slots := 0, locals := 0 }) (dC, dI) gx_cl [(cI, .int), (cZ, .boolean)] (mw cI cZ o) [.int v0] S post := by
  refine gx_metI (by decide) wsA_good (Nat.le_of_ble_eq_true rfl) ?_
  intro p e s m args below meth c A C hr hlocks
  refine h (vh_M_leads o (GV p l e ({ frames := 0, cells := 0, slots := 0, locals := 0 }) s m args below meth c (MQ below (va_Qi post (GB (mw cI cZ o) (dC, dI) gx_cl [(cI, .int), (cZ, .boolean)] A) A) args s 0 0 A) 1 (dC, dI) gx_cl A (mw cI cZ o))) (fun h S xs hs => ?_)
  unfold sp_M_leads at hs
  split at hs
  · exact wk_M_leads_0 C hr hlocks _ _ hs
  · exact hs.elim
/-- CountedObjectsModel.isObject(I)Z: a step from head to head -/
def sp_M_isObject (post : Int32 → GS → Prop) (V : Nat → GS → List Int32 → Prop) (h : Nat) (S : GS) (xs : List Int32) : Prop := match h, xs with
  | 0, [v1] => ((v1 ≤ 0 → post 0 S) ∧ (¬ v1 ≤ 0 → (((2 * (S 100 2)) < v1 → post 0 S) ∧ (¬ (2 * (S 100 2)) < v1 → wp_M_leads  [v1] S (fun r2 S1 => ((r2 = 0 → post 0 S1) ∧ (¬ r2 = 0 → (vp_in (v1 / 2) 41 ∧ (((S1 1 (v1 / 2).toNatClampNeg) = 0 → post 0 S1) ∧ (¬ (S1 1 (v1 / 2).toNatClampNeg) = 0 → post 1 S1))))))))))
  | _, _ => False
def wp_M_isObject (xs : List Int32) (S : GS) (post : Int32 → GS → Prop) : Prop := ∀ V : Nat → GS → List Int32 → Prop, (∀ h S xs, sp_M_isObject post V h S xs → V h S xs) → V 0 S xs
def vh_M_isObject (o : Nat → Nat) (G : GS → Nat → List (Nat × Value) → List Value → Prop) (h : Nat) (S : GS) (xs : List Int32) : Prop := match h, xs with
  | 0, [v1] => G S 0 [(0, .ref (o 0)), (1, .int v1)] []
  | _, _ => True
set_option maxHeartbeats 4000000 in
set_option maxRecDepth 100000 in
theorem wk_M_isObject_0 {l : Launch} {dC : Nat → ClassId} {dI : Nat → Nat → Nat} {cI cZ : ClassId} {o : Nat → Nat}  {p : Program} {e : Env} {s : State} {m : MethodId} {args : Array Value} {below : List Frame} {meth : Method} {c : Code} {A : Nat → Prop} {post : Int32 → GS → Prop} (C : GC p s m args c cM_isObject 2 RM wsA (dC, dI) gx_cl [(cI, .int), (cZ, .boolean)] A) (hr : meth.sig.returnType = (some .boolean)) (hlocks : meth.locks = false) (S : GS) (v1 : Int32) (hs : sp_M_isObject post (vh_M_isObject o (GV p l e ({ frames := 1, cells := 0, slots := 0, locals := 20 }) s m args below meth c (MQ below (va_Qi post (GB (mw cI cZ o) (dC, dI) gx_cl [(cI, .int), (cZ, .boolean)] A) A) args s 0 0 A) 2 (dC, dI) gx_cl A (mw cI cZ o))) 0 S [v1]) : GV p l e ({ frames := 1, cells := 0, slots := 0, locals := 20 }) s m args below meth c (MQ below (va_Qi post (GB (mw cI cZ o) (dC, dI) gx_cl [(cI, .int), (cZ, .boolean)] A) A) args s 0 0 A) 2 (dC, dI) gx_cl A (mw cI cZ o) S 0 [(0, .ref (o 0)), (1, .int v1)] [] := by
  refine gx_iload_n C dM_isObject_0 1 rfl rfl ?_
  obtain ⟨ht, hf⟩ := hs
  refine gx_if_le C dM_isObject_1 36 rfl (fun hc => ?_) (fun hc => ?_)
  · have hs := ht hc
    refine gx_iconst (v := 0) C dM_isObject_36 (by decide) ?_
    exact gx_zret C hr hlocks dM_isObject_37 hs rfl
  · have hs := hf hc
    refine gx_iload_n C dM_isObject_4 1 rfl rfl ?_
    refine gx_iconst (v := 2) C dM_isObject_5 (by decide) ?_
    refine gx_aload_n C dM_isObject_6 0 rfl rfl ?_
    refine gx_get C mo_this hi_M 2 (by decide) fl_M_51 rfl dM_isObject_7 ?_
    refine gx_imul C dM_isObject_10 ?_
    obtain ⟨ht, hf⟩ := hs
    refine gx_icmp_gt C dM_isObject_11 36 rfl (fun hc => ?_) (fun hc => ?_)
    · have hs := ht hc
      refine gx_iconst (v := 0) C dM_isObject_36 (by decide) ?_
      exact gx_zret C hr hlocks dM_isObject_37 hs rfl
    · have hs := hf hc
      refine gx_iload_n C dM_isObject_14 1 rfl rfl ?_
      refine gx_calls (As := [.int v1]) (rest := []) C (mt_M_leads l dC dI cI cZ o  _ _ _ hs) (gx_cwS C 1 ln_M_61 sm_M_leads in_CountedObjectsModel cd_M_leads rfl rfl (by decide +kernel) ⟨Nat.le_of_ble_eq_true rfl, Nat.le_of_ble_eq_true rfl⟩) rfl (Nat.le_of_ble_eq_true rfl) dM_isObject_15 (fun S1 => mw_ad _ S1) rfl (fun r2 S1 hs => ?_)
      obtain ⟨ht, hf⟩ := hs
      refine gx_if_eq C dM_isObject_18 36 rfl (fun hc => ?_) (fun hc => ?_)
      · have hs := ht hc
        refine gx_iconst (v := 0) C dM_isObject_36 (by decide) ?_
        exact gx_zret C hr hlocks dM_isObject_37 hs rfl
      · have hs := hf hc
        refine gx_aload_n C dM_isObject_21 0 rfl rfl ?_
        refine gx_get C mo_this hi_M 4 (by decide) fl_M_13 rfl dM_isObject_22 ?_
        refine gx_iload_n C dM_isObject_25 1 rfl rfl ?_
        refine gx_iconst (v := 2) C dM_isObject_26 (by decide) ?_
        refine gx_idiv C dM_isObject_27 (by decide) ?_
        obtain ⟨hin, hs⟩ := hs
        refine gx_zald C ma_lives hin dM_isObject_28 ?_
        obtain ⟨ht, hf⟩ := hs
        refine gx_if_eq C dM_isObject_29 36 rfl (fun hc => ?_) (fun hc => ?_)
        · have hs := ht hc
          refine gx_iconst (v := 0) C dM_isObject_36 (by decide) ?_
          exact gx_zret C hr hlocks dM_isObject_37 hs rfl
        · have hs := hf hc
          refine gx_iconst (v := 1) C dM_isObject_32 (by decide) ?_
          refine gx_goto C dM_isObject_33 37 rfl ?_
          exact gx_zret C hr hlocks dM_isObject_37 hs rfl
set_option maxHeartbeats 4000000 in
set_option maxRecDepth 100000 in
theorem mt_M_isObject (l : Launch) (dC : Nat → ClassId) (dI : Nat → Nat → Nat) (cI cZ : ClassId) (o : Nat → Nat) (v1 : Int32) (S : GS) (post : Int32 → GS → Prop) (h : wp_M_isObject [v1] S post) : MetI l yM_isObject (Cond.code yM_isObject cM_isObject 2 (some .boolean) :: wsA) ({ frames := 1, cells := 0, slots := 0, locals := 20 }) (dC, dI) gx_cl [(cI, .int), (cZ, .boolean)] (mw cI cZ o) [.ref (o 0), .int v1] S post := by
  refine gx_metI (by decide) wsA_good (Nat.le_of_ble_eq_true rfl) ?_
  intro p e s m args below meth c A C hr hlocks
  refine h (vh_M_isObject o (GV p l e ({ frames := 1, cells := 0, slots := 0, locals := 20 }) s m args below meth c (MQ below (va_Qi post (GB (mw cI cZ o) (dC, dI) gx_cl [(cI, .int), (cZ, .boolean)] A) A) args s 0 0 A) 2 (dC, dI) gx_cl A (mw cI cZ o))) (fun h S xs hs => ?_)
  unfold sp_M_isObject at hs
  split at hs
  · exact wk_M_isObject_0 C hr hlocks _ _ hs
  · exact hs.elim
/-- CountedObjectsModel.isValue(I)Z: a step from head to head -/
def sp_M_isValue (post : Int32 → GS → Prop) (V : Nat → GS → List Int32 → Prop) (h : Nat) (S : GS) (xs : List Int32) : Prop := match h, xs with
  | 0, [v1] => wp_M_leads  [v1] S (fun r2 S1 => ((r2 = 0 → post 1 S1) ∧ (¬ r2 = 0 → wp_M_isObject  [v1] S1 (fun r4 S3 => ((r4 = 0 → post 0 S3) ∧ (¬ r4 = 0 → post 1 S3))))))
  | _, _ => False
def wp_M_isValue (xs : List Int32) (S : GS) (post : Int32 → GS → Prop) : Prop := ∀ V : Nat → GS → List Int32 → Prop, (∀ h S xs, sp_M_isValue post V h S xs → V h S xs) → V 0 S xs
def vh_M_isValue (o : Nat → Nat) (G : GS → Nat → List (Nat × Value) → List Value → Prop) (h : Nat) (S : GS) (xs : List Int32) : Prop := match h, xs with
  | 0, [v1] => G S 0 [(0, .ref (o 0)), (1, .int v1)] []
  | _, _ => True
set_option maxHeartbeats 4000000 in
set_option maxRecDepth 100000 in
theorem wk_M_isValue_0 {l : Launch} {dC : Nat → ClassId} {dI : Nat → Nat → Nat} {cI cZ : ClassId} {o : Nat → Nat}  {p : Program} {e : Env} {s : State} {m : MethodId} {args : Array Value} {below : List Frame} {meth : Method} {c : Code} {A : Nat → Prop} {post : Int32 → GS → Prop} (C : GC p s m args c cM_isValue 2 RM wsA (dC, dI) gx_cl [(cI, .int), (cZ, .boolean)] A) (hr : meth.sig.returnType = (some .boolean)) (hlocks : meth.locks = false) (S : GS) (v1 : Int32) (hs : sp_M_isValue post (vh_M_isValue o (GV p l e ({ frames := 2, cells := 0, slots := 0, locals := 41 }) s m args below meth c (MQ below (va_Qi post (GB (mw cI cZ o) (dC, dI) gx_cl [(cI, .int), (cZ, .boolean)] A) A) args s 0 0 A) 2 (dC, dI) gx_cl A (mw cI cZ o))) 0 S [v1]) : GV p l e ({ frames := 2, cells := 0, slots := 0, locals := 41 }) s m args below meth c (MQ below (va_Qi post (GB (mw cI cZ o) (dC, dI) gx_cl [(cI, .int), (cZ, .boolean)] A) A) args s 0 0 A) 2 (dC, dI) gx_cl A (mw cI cZ o) S 0 [(0, .ref (o 0)), (1, .int v1)] [] := by
  refine gx_iload_n C dM_isValue_0 1 rfl rfl ?_
  refine gx_calls (As := [.int v1]) (rest := []) C (mt_M_leads l dC dI cI cZ o  _ _ _ hs) (gx_cwS C 1 ln_M_61 sm_M_leads in_CountedObjectsModel cd_M_leads rfl rfl (by decide +kernel) ⟨Nat.le_of_ble_eq_true rfl, Nat.le_of_ble_eq_true rfl⟩) rfl (Nat.le_of_ble_eq_true rfl) dM_isValue_1 (fun S1 => mw_ad _ S1) rfl (fun r2 S1 hs => ?_)
  obtain ⟨ht, hf⟩ := hs
  refine gx_if_eq C dM_isValue_4 15 rfl (fun hc => ?_) (fun hc => ?_)
  · have hs := ht hc
    refine gx_iconst (v := 1) C dM_isValue_15 (by decide) ?_
    refine gx_goto C dM_isValue_16 20 rfl ?_
    exact gx_zret C hr hlocks dM_isValue_20 hs rfl
  · have hs := hf hc
    refine gx_aload_n C dM_isValue_7 0 rfl rfl ?_
    refine gx_iload_n C dM_isValue_8 1 rfl rfl ?_
    refine gx_calli (As := [.int v1]) (rest := []) C (mt_M_isObject l dC dI cI cZ o  _ _ _ hs) (gx_cwV C 1 ln_M_65 im_M_isObject se_M_isObject in_CountedObjectsModel cd_M_isObject rfl rfl (by decide +kernel) ⟨Nat.le_of_ble_eq_true rfl, Nat.le_of_ble_eq_true rfl⟩) mo_this rfl (Nat.le_of_ble_eq_true rfl) dM_isValue_9 (fun S1 => mw_ad _ S1) rfl (fun r4 S3 hs => ?_)
    obtain ⟨ht, hf⟩ := hs
    refine gx_if_eq C dM_isValue_12 19 rfl (fun hc => ?_) (fun hc => ?_)
    · have hs := ht hc
      refine gx_iconst (v := 0) C dM_isValue_19 (by decide) ?_
      exact gx_zret C hr hlocks dM_isValue_20 hs rfl
    · have hs := hf hc
      refine gx_iconst (v := 1) C dM_isValue_15 (by decide) ?_
      refine gx_goto C dM_isValue_16 20 rfl ?_
      exact gx_zret C hr hlocks dM_isValue_20 hs rfl
set_option maxHeartbeats 4000000 in
set_option maxRecDepth 100000 in
theorem mt_M_isValue (l : Launch) (dC : Nat → ClassId) (dI : Nat → Nat → Nat) (cI cZ : ClassId) (o : Nat → Nat) (v1 : Int32) (S : GS) (post : Int32 → GS → Prop) (h : wp_M_isValue [v1] S post) : MetI l yM_isValue (Cond.code yM_isValue cM_isValue 2 (some .boolean) :: wsA) ({ frames := 2, cells := 0, slots := 0, locals := 41 }) (dC, dI) gx_cl [(cI, .int), (cZ, .boolean)] (mw cI cZ o) [.ref (o 0), .int v1] S post := by
  refine gx_metI (by decide) wsA_good (Nat.le_of_ble_eq_true rfl) ?_
  intro p e s m args below meth c A C hr hlocks
  refine h (vh_M_isValue o (GV p l e ({ frames := 2, cells := 0, slots := 0, locals := 41 }) s m args below meth c (MQ below (va_Qi post (GB (mw cI cZ o) (dC, dI) gx_cl [(cI, .int), (cZ, .boolean)] A) A) args s 0 0 A) 2 (dC, dI) gx_cl A (mw cI cZ o))) (fun h S xs hs => ?_)
  unfold sp_M_isValue at hs
  split at hs
  · exact wk_M_isValue_0 C hr hlocks _ _ hs
  · exact hs.elim
/-- CountedObjectsModel.isRegister(I)Z: a step from head to head -/
def sp_M_isRegister (post : Int32 → GS → Prop) (V : Nat → GS → List Int32 → Prop) (h : Nat) (S : GS) (xs : List Int32) : Prop := match h, xs with
  | 0, [v0] => ((v0 < 0 → post 0 S) ∧ (¬ v0 < 0 → ((8 ≤ v0 → post 0 S) ∧ (¬ 8 ≤ v0 → post 1 S))))
  | _, _ => False
def wp_M_isRegister (xs : List Int32) (S : GS) (post : Int32 → GS → Prop) : Prop := ∀ V : Nat → GS → List Int32 → Prop, (∀ h S xs, sp_M_isRegister post V h S xs → V h S xs) → V 0 S xs
def vh_M_isRegister (o : Nat → Nat) (G : GS → Nat → List (Nat × Value) → List Value → Prop) (h : Nat) (S : GS) (xs : List Int32) : Prop := match h, xs with
  | 0, [v0] => G S 0 [(0, .int v0)] []
  | _, _ => True
set_option maxHeartbeats 4000000 in
set_option maxRecDepth 100000 in
theorem wk_M_isRegister_0 {l : Launch} {dC : Nat → ClassId} {dI : Nat → Nat → Nat} {cI cZ : ClassId} {o : Nat → Nat}  {p : Program} {e : Env} {s : State} {m : MethodId} {args : Array Value} {below : List Frame} {meth : Method} {c : Code} {A : Nat → Prop} {post : Int32 → GS → Prop} (C : GC p s m args c cM_isRegister 1 RM wsA (dC, dI) gx_cl [(cI, .int), (cZ, .boolean)] A) (hr : meth.sig.returnType = (some .boolean)) (hlocks : meth.locks = false) (S : GS) (v0 : Int32) (hs : sp_M_isRegister post (vh_M_isRegister o (GV p l e ({ frames := 0, cells := 0, slots := 0, locals := 0 }) s m args below meth c (MQ below (va_Qi post (GB (mw cI cZ o) (dC, dI) gx_cl [(cI, .int), (cZ, .boolean)] A) A) args s 0 0 A) 1 (dC, dI) gx_cl A (mw cI cZ o))) 0 S [v0]) : GV p l e ({ frames := 0, cells := 0, slots := 0, locals := 0 }) s m args below meth c (MQ below (va_Qi post (GB (mw cI cZ o) (dC, dI) gx_cl [(cI, .int), (cZ, .boolean)] A) A) args s 0 0 A) 1 (dC, dI) gx_cl A (mw cI cZ o) S 0 [(0, .int v0)] [] := by
  refine gx_iload_n C dM_isRegister_0 0 rfl rfl ?_
  obtain ⟨ht, hf⟩ := hs
  refine gx_if_lt C dM_isRegister_1 14 rfl (fun hc => ?_) (fun hc => ?_)
  · have hs := ht hc
    refine gx_iconst (v := 0) C dM_isRegister_14 (by decide) ?_
    exact gx_zret C hr hlocks dM_isRegister_15 hs rfl
  · have hs := hf hc
    refine gx_iload_n C dM_isRegister_4 0 rfl rfl ?_
    refine gx_bipush (v := 8) C dM_isRegister_5 (by decide) ?_
    obtain ⟨ht, hf⟩ := hs
    refine gx_icmp_ge C dM_isRegister_7 14 rfl (fun hc => ?_) (fun hc => ?_)
    · have hs := ht hc
      refine gx_iconst (v := 0) C dM_isRegister_14 (by decide) ?_
      exact gx_zret C hr hlocks dM_isRegister_15 hs rfl
    · have hs := hf hc
      refine gx_iconst (v := 1) C dM_isRegister_10 (by decide) ?_
      refine gx_goto C dM_isRegister_11 15 rfl ?_
      exact gx_zret C hr hlocks dM_isRegister_15 hs rfl
set_option maxHeartbeats 4000000 in
set_option maxRecDepth 100000 in
theorem mt_M_isRegister (l : Launch) (dC : Nat → ClassId) (dI : Nat → Nat → Nat) (cI cZ : ClassId) (o : Nat → Nat) (v0 : Int32) (S : GS) (post : Int32 → GS → Prop) (h : wp_M_isRegister [v0] S post) : MetI l yM_isRegister (Cond.code yM_isRegister cM_isRegister 1 (some .boolean) :: wsA) ({ frames := 0, cells := 0, slots := 0, locals := 0 }) (dC, dI) gx_cl [(cI, .int), (cZ, .boolean)] (mw cI cZ o) [.int v0] S post := by
  refine gx_metI (by decide) wsA_good (Nat.le_of_ble_eq_true rfl) ?_
  intro p e s m args below meth c A C hr hlocks
  refine h (vh_M_isRegister o (GV p l e ({ frames := 0, cells := 0, slots := 0, locals := 0 }) s m args below meth c (MQ below (va_Qi post (GB (mw cI cZ o) (dC, dI) gx_cl [(cI, .int), (cZ, .boolean)] A) A) args s 0 0 A) 1 (dC, dI) gx_cl A (mw cI cZ o))) (fun h S xs hs => ?_)
  unfold sp_M_isRegister at hs
  split at hs
  · exact wk_M_isRegister_0 C hr hlocks _ _ hs
  · exact hs.elim
/-- CountedObjectsModel.give(II)V: a step from head to head -/
def sp_M_give (post : GS → Prop) (V : Nat → GS → List Int32 → Prop) (h : Nat) (S : GS) (xs : List Int32) : Prop := match h, xs with
  | 0, [v1, v2] => (vp_in (S 100 3) 400 ∧ ∀ S1 : GS, S1 = gx_set 6 (S 100 3).toNatClampNeg v1 S → (vp_in (S1 100 3) 400 ∧ ∀ S2 : GS, S2 = gx_set 7 (S1 100 3).toNatClampNeg v2 S1 → (vp_in (S2 100 3) 400 ∧ ∀ S3 : GS, S3 = gx_set 8 (S2 100 3).toNatClampNeg (S2 100 4) S2 → (∀ S4 : GS, S4 = gx_set 100 4 ((S3 100 4) + 1) S3 → (∀ S5 : GS, S5 = gx_set 100 3 ((S4 100 3) + 1) S4 → post S5)))))
  | _, _ => False
def wp_M_give (xs : List Int32) (S : GS) (post : GS → Prop) : Prop := ∀ V : Nat → GS → List Int32 → Prop, (∀ h S xs, sp_M_give post V h S xs → V h S xs) → V 0 S xs
def vh_M_give (o : Nat → Nat) (G : GS → Nat → List (Nat × Value) → List Value → Prop) (h : Nat) (S : GS) (xs : List Int32) : Prop := match h, xs with
  | 0, [v1, v2] => G S 0 [(0, .ref (o 0)), (1, .int v1), (2, .int v2)] []
  | _, _ => True
set_option maxHeartbeats 4000000 in
set_option maxRecDepth 100000 in
theorem wk_M_give_0 {l : Launch} {dC : Nat → ClassId} {dI : Nat → Nat → Nat} {cI cZ : ClassId} {o : Nat → Nat}  {p : Program} {e : Env} {s : State} {m : MethodId} {args : Array Value} {below : List Frame} {meth : Method} {c : Code} {A : Nat → Prop} {post : GS → Prop} (C : GC p s m args c cM_give 3 RM wsA (dC, dI) gx_cl [(cI, .int), (cZ, .boolean)] A) (hr : meth.sig.returnType = none) (hlocks : meth.locks = false) (S : GS) (v1 : Int32) (v2 : Int32) (hs : sp_M_give post (vh_M_give o (GV p l e ({ frames := 0, cells := 0, slots := 0, locals := 0 }) s m args below meth c (MQ below (va_Qv post (GB (mw cI cZ o) (dC, dI) gx_cl [(cI, .int), (cZ, .boolean)] A) A) args s 0 0 A) 3 (dC, dI) gx_cl A (mw cI cZ o))) 0 S [v1, v2]) : GV p l e ({ frames := 0, cells := 0, slots := 0, locals := 0 }) s m args below meth c (MQ below (va_Qv post (GB (mw cI cZ o) (dC, dI) gx_cl [(cI, .int), (cZ, .boolean)] A) A) args s 0 0 A) 3 (dC, dI) gx_cl A (mw cI cZ o) S 0 [(0, .ref (o 0)), (1, .int v1), (2, .int v2)] [] := by
  refine gx_aload_n C dM_give_0 0 rfl rfl ?_
  refine gx_get C mo_this hi_M 10 (by decide) fl_M_29 rfl dM_give_1 ?_
  refine gx_aload_n C dM_give_4 0 rfl rfl ?_
  refine gx_get C mo_this hi_M 9 (by decide) fl_M_68 rfl dM_give_5 ?_
  refine gx_iload_n C dM_give_8 1 rfl rfl ?_
  obtain ⟨hin, hs⟩ := hs
  refine gx_iast C ma_begins hin dM_give_9 (fun S1 eS1 => ?_)
  replace hs := hs S1 eS1
  refine gx_aload_n C dM_give_10 0 rfl rfl ?_
  refine gx_get C mo_this hi_M 11 (by decide) fl_M_32 rfl dM_give_11 ?_
  refine gx_aload_n C dM_give_14 0 rfl rfl ?_
  refine gx_get C mo_this hi_M 9 (by decide) fl_M_68 rfl dM_give_15 ?_
  refine gx_iload_n C dM_give_18 2 rfl rfl ?_
  obtain ⟨hin, hs⟩ := hs
  refine gx_iast C ma_lengths hin dM_give_19 (fun S2 eS2 => ?_)
  replace hs := hs S2 eS2
  refine gx_aload_n C dM_give_20 0 rfl rfl ?_
  refine gx_get C mo_this hi_M 12 (by decide) fl_M_35 rfl dM_give_21 ?_
  refine gx_aload_n C dM_give_24 0 rfl rfl ?_
  refine gx_get C mo_this hi_M 9 (by decide) fl_M_68 rfl dM_give_25 ?_
  refine gx_aload_n C dM_give_28 0 rfl rfl ?_
  refine gx_get C mo_this hi_M 13 (by decide) fl_M_71 rfl dM_give_29 ?_
  obtain ⟨hin, hs⟩ := hs
  refine gx_iast C ma_came hin dM_give_32 (fun S3 eS3 => ?_)
  replace hs := hs S3 eS3
  refine gx_aload_n C dM_give_33 0 rfl rfl ?_
  refine gx_dup C dM_give_34 rfl ?_
  refine gx_get C mo_this hi_M 13 (by decide) fl_M_71 rfl dM_give_35 ?_
  refine gx_iconst (v := 1) C dM_give_38 (by decide) ?_
  refine gx_iadd C dM_give_39 ?_
  refine gx_put C mo_this hi_M tyM tyM_ok nmM 13 (by decide) fl_M_71 rfl (by decide +kernel) (Nat.le_of_ble_eq_true rfl) (mp_clock _ _) dM_give_40 (fun S4 eS4 => ?_)
  replace hs := hs S4 eS4
  refine gx_aload_n C dM_give_43 0 rfl rfl ?_
  refine gx_dup C dM_give_44 rfl ?_
  refine gx_get C mo_this hi_M 9 (by decide) fl_M_68 rfl dM_give_45 ?_
  refine gx_iconst (v := 1) C dM_give_48 (by decide) ?_
  refine gx_iadd C dM_give_49 ?_
  refine gx_put C mo_this hi_M tyM tyM_ok nmM 9 (by decide) fl_M_68 rfl (by decide +kernel) (Nat.le_of_ble_eq_true rfl) (mp_frees _ _) dM_give_50 (fun S5 eS5 => ?_)
  replace hs := hs S5 eS5
  exact gx_vret C hr hlocks dM_give_53 hs
set_option maxHeartbeats 4000000 in
set_option maxRecDepth 100000 in
theorem mt_M_give (l : Launch) (dC : Nat → ClassId) (dI : Nat → Nat → Nat) (cI cZ : ClassId) (o : Nat → Nat) (v1 : Int32) (v2 : Int32) (S : GS) (post : GS → Prop) (h : wp_M_give [v1, v2] S post) : MetV l yM_give (Cond.code yM_give cM_give 3 none :: wsA) ({ frames := 0, cells := 0, slots := 0, locals := 0 }) (dC, dI) gx_cl [(cI, .int), (cZ, .boolean)] (mw cI cZ o) [.ref (o 0), .int v1, .int v2] S post := by
  refine gx_metV (by decide) wsA_good (Nat.le_of_ble_eq_true rfl) ?_
  intro p e s m args below meth c A C hr hlocks
  refine h (vh_M_give o (GV p l e ({ frames := 0, cells := 0, slots := 0, locals := 0 }) s m args below meth c (MQ below (va_Qv post (GB (mw cI cZ o) (dC, dI) gx_cl [(cI, .int), (cZ, .boolean)] A) A) args s 0 0 A) 3 (dC, dI) gx_cl A (mw cI cZ o))) (fun h S xs hs => ?_)
  unfold sp_M_give at hs
  split at hs
  · exact wk_M_give_0 C hr hlocks _ _ _ hs
  · exact hs.elim
/-- CountedObjectsModel.freeWords()I: a step from head to head -/
def sp_M_freeWords (post : Int32 → GS → Prop) (V : Nat → GS → List Int32 → Prop) (h : Nat) (S : GS) (xs : List Int32) : Prop := match h, xs with
  | 0, [] => ∀ y1 : Int32, y1 = 0 → ∀ y2 : Int32, y2 = 0 → V 4 S [y1, y2]
  | 4, [v1, v2] => (((S 100 3) ≤ v2 → post v1 S) ∧ (¬ (S 100 3) ≤ v2 → (vp_in v2 400 ∧ ∀ y1 : Int32, y1 = v1 + (S 7 (v2).toNatClampNeg) → (∀ y2 : Int32, y2 = v2 + 1 → V 4 S [y1, y2]))))
  | _, _ => False
def wp_M_freeWords (xs : List Int32) (S : GS) (post : Int32 → GS → Prop) : Prop := ∀ V : Nat → GS → List Int32 → Prop, (∀ h S xs, sp_M_freeWords post V h S xs → V h S xs) → V 0 S xs
def vh_M_freeWords (o : Nat → Nat) (G : GS → Nat → List (Nat × Value) → List Value → Prop) (h : Nat) (S : GS) (xs : List Int32) : Prop := match h, xs with
  | 0, [] => G S 0 [(0, .ref (o 0))] []
  | 4, [v1, v2] => G S 4 [(0, .ref (o 0)), (1, .int v1), (2, .int v2)] []
  | _, _ => True
set_option maxHeartbeats 4000000 in
set_option maxRecDepth 100000 in
theorem wk_M_freeWords_0 {l : Launch} {dC : Nat → ClassId} {dI : Nat → Nat → Nat} {cI cZ : ClassId} {o : Nat → Nat}  {p : Program} {e : Env} {s : State} {m : MethodId} {args : Array Value} {below : List Frame} {meth : Method} {c : Code} {A : Nat → Prop} {post : Int32 → GS → Prop} (C : GC p s m args c cM_freeWords 3 RM wsA (dC, dI) gx_cl [(cI, .int), (cZ, .boolean)] A) (hr : meth.sig.returnType = (some .int)) (hlocks : meth.locks = false) (S : GS) (hs : sp_M_freeWords post (vh_M_freeWords o (GV p l e ({ frames := 0, cells := 0, slots := 0, locals := 0 }) s m args below meth c (MQ below (va_Qi post (GB (mw cI cZ o) (dC, dI) gx_cl [(cI, .int), (cZ, .boolean)] A) A) args s 0 0 A) 3 (dC, dI) gx_cl A (mw cI cZ o))) 0 S []) : GV p l e ({ frames := 0, cells := 0, slots := 0, locals := 0 }) s m args below meth c (MQ below (va_Qi post (GB (mw cI cZ o) (dC, dI) gx_cl [(cI, .int), (cZ, .boolean)] A) A) args s 0 0 A) 3 (dC, dI) gx_cl A (mw cI cZ o) S 0 [(0, .ref (o 0))] [] := by
  refine gx_iconst (v := 0) C dM_freeWords_0 (by decide) ?_
  refine gx_top (fun y1 ey1 => ?_)
  replace hs := hs y1 ey1
  refine gx_istore_n (L' := [(1, .int y1), (0, .ref (o 0))]) C dM_freeWords_1 rfl (by decide) rfl ?_
  refine gx_iconst (v := 0) C dM_freeWords_2 (by decide) ?_
  refine gx_top (fun y2 ey2 => ?_)
  replace hs := hs y2 ey2
  refine gx_istore_n (L' := [(2, .int y2), (1, .int y1), (0, .ref (o 0))]) C dM_freeWords_3 rfl (by decide) rfl ?_
  exact gx_sub [2, 1, 0] rfl hs
set_option maxHeartbeats 4000000 in
set_option maxRecDepth 100000 in
theorem wk_M_freeWords_4 {l : Launch} {dC : Nat → ClassId} {dI : Nat → Nat → Nat} {cI cZ : ClassId} {o : Nat → Nat}  {p : Program} {e : Env} {s : State} {m : MethodId} {args : Array Value} {below : List Frame} {meth : Method} {c : Code} {A : Nat → Prop} {post : Int32 → GS → Prop} (C : GC p s m args c cM_freeWords 3 RM wsA (dC, dI) gx_cl [(cI, .int), (cZ, .boolean)] A) (hr : meth.sig.returnType = (some .int)) (hlocks : meth.locks = false) (S : GS) (v1 : Int32) (v2 : Int32) (hs : sp_M_freeWords post (vh_M_freeWords o (GV p l e ({ frames := 0, cells := 0, slots := 0, locals := 0 }) s m args below meth c (MQ below (va_Qi post (GB (mw cI cZ o) (dC, dI) gx_cl [(cI, .int), (cZ, .boolean)] A) A) args s 0 0 A) 3 (dC, dI) gx_cl A (mw cI cZ o))) 4 S [v1, v2]) : GV p l e ({ frames := 0, cells := 0, slots := 0, locals := 0 }) s m args below meth c (MQ below (va_Qi post (GB (mw cI cZ o) (dC, dI) gx_cl [(cI, .int), (cZ, .boolean)] A) A) args s 0 0 A) 3 (dC, dI) gx_cl A (mw cI cZ o) S 4 [(0, .ref (o 0)), (1, .int v1), (2, .int v2)] [] := by
  refine gx_iload_n C dM_freeWords_4 2 rfl rfl ?_
  refine gx_aload_n C dM_freeWords_5 0 rfl rfl ?_
  refine gx_get C mo_this hi_M 9 (by decide) fl_M_68 rfl dM_freeWords_6 ?_
  obtain ⟨ht, hf⟩ := hs
  refine gx_icmp_ge C dM_freeWords_9 27 rfl (fun hc => ?_) (fun hc => ?_)
  · have hs := ht hc
    refine gx_iload_n C dM_freeWords_27 1 rfl rfl ?_
    exact gx_iret C hr hlocks dM_freeWords_28 hs
  · have hs := hf hc
    refine gx_iload_n C dM_freeWords_12 1 rfl rfl ?_
    refine gx_aload_n C dM_freeWords_13 0 rfl rfl ?_
    refine gx_get C mo_this hi_M 11 (by decide) fl_M_32 rfl dM_freeWords_14 ?_
    refine gx_iload_n C dM_freeWords_17 2 rfl rfl ?_
    obtain ⟨hin, hs⟩ := hs
    refine gx_iald C ma_lengths hin dM_freeWords_18 ?_
    refine gx_iadd C dM_freeWords_19 ?_
    refine gx_top (fun y1 ey1 => ?_)
    replace hs := hs y1 ey1
    refine gx_istore_n (L' := [(1, .int y1), (0, .ref (o 0)), (2, .int v2)]) C dM_freeWords_20 rfl (by decide) rfl ?_
    refine gx_iinc (v0 := 1) (f := fun v => [(2, .int v), (1, .int y1), (0, .ref (o 0))]) C dM_freeWords_21 2 rfl (by decide) (by decide) (fun _ => rfl) (fun y2 ey2 => ?_)
    replace hs := hs y2 ey2
    refine gx_goto C dM_freeWords_24 4 rfl ?_
    exact gx_sub [2, 1, 0] rfl hs
set_option maxHeartbeats 4000000 in
set_option maxRecDepth 100000 in
theorem mt_M_freeWords (l : Launch) (dC : Nat → ClassId) (dI : Nat → Nat → Nat) (cI cZ : ClassId) (o : Nat → Nat) (S : GS) (post : Int32 → GS → Prop) (h : wp_M_freeWords [] S post) : MetI l yM_freeWords (Cond.code yM_freeWords cM_freeWords 3 (some .int) :: wsA) ({ frames := 0, cells := 0, slots := 0, locals := 0 }) (dC, dI) gx_cl [(cI, .int), (cZ, .boolean)] (mw cI cZ o) [.ref (o 0)] S post := by
  refine gx_metI (by decide) wsA_good (Nat.le_of_ble_eq_true rfl) ?_
  intro p e s m args below meth c A C hr hlocks
  refine h (vh_M_freeWords o (GV p l e ({ frames := 0, cells := 0, slots := 0, locals := 0 }) s m args below meth c (MQ below (va_Qi post (GB (mw cI cZ o) (dC, dI) gx_cl [(cI, .int), (cZ, .boolean)] A) A) args s 0 0 A) 3 (dC, dI) gx_cl A (mw cI cZ o))) (fun h S xs hs => ?_)
  unfold sp_M_freeWords at hs
  split at hs
  · exact wk_M_freeWords_0 C hr hlocks _ hs
  · exact wk_M_freeWords_4 C hr hlocks _ _ _ hs
  · exact hs.elim
/-- CountedObjectsModel.fitting(I)I: a step from head to head -/
def sp_M_fitting (post : Int32 → GS → Prop) (V : Nat → GS → List Int32 → Prop) (h : Nat) (S : GS) (xs : List Int32) : Prop := match h, xs with
  | 0, [v1] => ∀ y1 : Int32, y1 = (-1) → ∀ y2 : Int32, y2 = 0 → V 4 S [v1, y1, y2]
  | 4, [v1, v2, v3] => (((S 100 3) ≤ v3 → post v2 S) ∧ (¬ (S 100 3) ≤ v3 → (vp_in v3 400 ∧ (((S 7 (v3).toNatClampNeg) < v1 → ∀ y1 : Int32, y1 = 0 → ((y1 = 0 → (∀ y2 : Int32, y2 = v3 + 1 → V 4 S [v1, v2, y2])) ∧ (¬ y1 = 0 → ((v2 < 0 → (∀ y3 : Int32, y3 = v3 + 1 → V 4 S [v1, v3, y3])) ∧ (¬ v2 < 0 → (vp_in v3 400 ∧ (vp_in v2 400 ∧ (((S 7 (v3).toNatClampNeg) < (S 7 (v2).toNatClampNeg) → (∀ y4 : Int32, y4 = v3 + 1 → V 4 S [v1, v3, y4])) ∧ (¬ (S 7 (v3).toNatClampNeg) < (S 7 (v2).toNatClampNeg) → (vp_in v3 400 ∧ (vp_in v2 400 ∧ ((¬ (S 7 (v3).toNatClampNeg) = (S 7 (v2).toNatClampNeg) → (∀ y5 : Int32, y5 = v3 + 1 → V 4 S [v1, v2, y5])) ∧ ((S 7 (v3).toNatClampNeg) = (S 7 (v2).toNatClampNeg) → (vp_in v3 400 ∧ (vp_in v2 400 ∧ (((S 8 (v3).toNatClampNeg) ≤ (S 8 (v2).toNatClampNeg) → (∀ y6 : Int32, y6 = v3 + 1 → V 4 S [v1, v2, y6])) ∧ (¬ (S 8 (v3).toNatClampNeg) ≤ (S 8 (v2).toNatClampNeg) → (∀ y7 : Int32, y7 = v3 + 1 → V 4 S [v1, v3, y7])))))))))))))))))) ∧ (¬ (S 7 (v3).toNatClampNeg) < v1 → ∀ y8 : Int32, y8 = 1 → ((y8 = 0 → (∀ y9 : Int32, y9 = v3 + 1 → V 4 S [v1, v2, y9])) ∧ (¬ y8 = 0 → ((v2 < 0 → (∀ y10 : Int32, y10 = v3 + 1 → V 4 S [v1, v3, y10])) ∧ (¬ v2 < 0 → (vp_in v3 400 ∧ (vp_in v2 400 ∧ (((S 7 (v3).toNatClampNeg) < (S 7 (v2).toNatClampNeg) → (∀ y11 : Int32, y11 = v3 + 1 → V 4 S [v1, v3, y11])) ∧ (¬ (S 7 (v3).toNatClampNeg) < (S 7 (v2).toNatClampNeg) → (vp_in v3 400 ∧ (vp_in v2 400 ∧ ((¬ (S 7 (v3).toNatClampNeg) = (S 7 (v2).toNatClampNeg) → (∀ y12 : Int32, y12 = v3 + 1 → V 4 S [v1, v2, y12])) ∧ ((S 7 (v3).toNatClampNeg) = (S 7 (v2).toNatClampNeg) → (vp_in v3 400 ∧ (vp_in v2 400 ∧ (((S 8 (v3).toNatClampNeg) ≤ (S 8 (v2).toNatClampNeg) → (∀ y13 : Int32, y13 = v3 + 1 → V 4 S [v1, v2, y13])) ∧ (¬ (S 8 (v3).toNatClampNeg) ≤ (S 8 (v2).toNatClampNeg) → (∀ y14 : Int32, y14 = v3 + 1 → V 4 S [v1, v3, y14]))))))))))))))))))))))
  | _, _ => False
def wp_M_fitting (xs : List Int32) (S : GS) (post : Int32 → GS → Prop) : Prop := ∀ V : Nat → GS → List Int32 → Prop, (∀ h S xs, sp_M_fitting post V h S xs → V h S xs) → V 0 S xs
def vh_M_fitting (o : Nat → Nat) (G : GS → Nat → List (Nat × Value) → List Value → Prop) (h : Nat) (S : GS) (xs : List Int32) : Prop := match h, xs with
  | 0, [v1] => G S 0 [(0, .ref (o 0)), (1, .int v1)] []
  | 4, [v1, v2, v3] => G S 4 [(0, .ref (o 0)), (1, .int v1), (2, .int v2), (3, .int v3)] []
  | _, _ => True
set_option maxHeartbeats 4000000 in
set_option maxRecDepth 100000 in
theorem wk_M_fitting_0 {l : Launch} {dC : Nat → ClassId} {dI : Nat → Nat → Nat} {cI cZ : ClassId} {o : Nat → Nat}  {p : Program} {e : Env} {s : State} {m : MethodId} {args : Array Value} {below : List Frame} {meth : Method} {c : Code} {A : Nat → Prop} {post : Int32 → GS → Prop} (C : GC p s m args c cM_fitting 5 RM wsA (dC, dI) gx_cl [(cI, .int), (cZ, .boolean)] A) (hr : meth.sig.returnType = (some .int)) (hlocks : meth.locks = false) (S : GS) (v1 : Int32) (hs : sp_M_fitting post (vh_M_fitting o (GV p l e ({ frames := 0, cells := 0, slots := 0, locals := 0 }) s m args below meth c (MQ below (va_Qi post (GB (mw cI cZ o) (dC, dI) gx_cl [(cI, .int), (cZ, .boolean)] A) A) args s 0 0 A) 5 (dC, dI) gx_cl A (mw cI cZ o))) 0 S [v1]) : GV p l e ({ frames := 0, cells := 0, slots := 0, locals := 0 }) s m args below meth c (MQ below (va_Qi post (GB (mw cI cZ o) (dC, dI) gx_cl [(cI, .int), (cZ, .boolean)] A) A) args s 0 0 A) 5 (dC, dI) gx_cl A (mw cI cZ o) S 0 [(0, .ref (o 0)), (1, .int v1)] [] := by
  refine gx_iconst (v := (-1)) C dM_fitting_0 (by decide) ?_
  refine gx_top (fun y1 ey1 => ?_)
  replace hs := hs y1 ey1
  refine gx_istore_n (L' := [(2, .int y1), (0, .ref (o 0)), (1, .int v1)]) C dM_fitting_1 rfl (by decide) rfl ?_
  refine gx_iconst (v := 0) C dM_fitting_2 (by decide) ?_
  refine gx_top (fun y2 ey2 => ?_)
  replace hs := hs y2 ey2
  refine gx_istore_n (L' := [(3, .int y2), (2, .int y1), (0, .ref (o 0)), (1, .int v1)]) C dM_fitting_3 rfl (by decide) rfl ?_
  exact gx_sub [2, 3, 1, 0] rfl hs
set_option maxHeartbeats 4000000 in
set_option maxRecDepth 100000 in
theorem wk_M_fitting_4 {l : Launch} {dC : Nat → ClassId} {dI : Nat → Nat → Nat} {cI cZ : ClassId} {o : Nat → Nat}  {p : Program} {e : Env} {s : State} {m : MethodId} {args : Array Value} {below : List Frame} {meth : Method} {c : Code} {A : Nat → Prop} {post : Int32 → GS → Prop} (C : GC p s m args c cM_fitting 5 RM wsA (dC, dI) gx_cl [(cI, .int), (cZ, .boolean)] A) (hr : meth.sig.returnType = (some .int)) (hlocks : meth.locks = false) (S : GS) (v1 : Int32) (v2 : Int32) (v3 : Int32) (hs : sp_M_fitting post (vh_M_fitting o (GV p l e ({ frames := 0, cells := 0, slots := 0, locals := 0 }) s m args below meth c (MQ below (va_Qi post (GB (mw cI cZ o) (dC, dI) gx_cl [(cI, .int), (cZ, .boolean)] A) A) args s 0 0 A) 5 (dC, dI) gx_cl A (mw cI cZ o))) 4 S [v1, v2, v3]) : GV p l e ({ frames := 0, cells := 0, slots := 0, locals := 0 }) s m args below meth c (MQ below (va_Qi post (GB (mw cI cZ o) (dC, dI) gx_cl [(cI, .int), (cZ, .boolean)] A) A) args s 0 0 A) 5 (dC, dI) gx_cl A (mw cI cZ o) S 4 [(0, .ref (o 0)), (1, .int v1), (2, .int v2), (3, .int v3)] [] := by
  refine gx_iload_n C dM_fitting_4 3 rfl rfl ?_
  refine gx_aload_n C dM_fitting_5 0 rfl rfl ?_
  refine gx_get C mo_this hi_M 9 (by decide) fl_M_68 rfl dM_fitting_6 ?_
  obtain ⟨ht, hf⟩ := hs
  refine gx_icmp_ge C dM_fitting_9 91 rfl (fun hc => ?_) (fun hc => ?_)
  · have hs := ht hc
    refine gx_iload_n C dM_fitting_91 2 rfl rfl ?_
    exact gx_iret C hr hlocks dM_fitting_92 hs
  · have hs := hf hc
    refine gx_aload_n C dM_fitting_12 0 rfl rfl ?_
    refine gx_get C mo_this hi_M 11 (by decide) fl_M_32 rfl dM_fitting_13 ?_
    refine gx_iload_n C dM_fitting_16 3 rfl rfl ?_
    obtain ⟨hin, hs⟩ := hs
    refine gx_iald C ma_lengths hin dM_fitting_17 ?_
    refine gx_iload_n C dM_fitting_18 1 rfl rfl ?_
    obtain ⟨ht, hf⟩ := hs
    refine gx_icmp_lt C dM_fitting_19 26 rfl (fun hc => ?_) (fun hc => ?_)
    · have hs := ht hc
      refine gx_iconst (v := 0) C dM_fitting_26 (by decide) ?_
      refine gx_top (fun y1 ey1 => ?_)
      replace hs := hs y1 ey1
      refine gx_istore (L' := [(4, .int y1), (0, .ref (o 0)), (1, .int v1), (2, .int v2), (3, .int v3)]) C dM_fitting_27 (by decide) rfl ?_
      refine gx_iload C dM_fitting_29 0 rfl ?_
      obtain ⟨ht, hf⟩ := hs
      refine gx_if_eq C dM_fitting_31 85 rfl (fun hc => ?_) (fun hc => ?_)
      · have hs := ht hc
        refine gx_iinc (v0 := 1) (f := fun v => [(3, .int v), (4, .int y1), (0, .ref (o 0)), (1, .int v1), (2, .int v2)]) C dM_fitting_85 4 rfl (by decide) (by decide) (fun _ => rfl) (fun y2 ey2 => ?_)
        replace hs := hs y2 ey2
        refine gx_goto C dM_fitting_88 4 rfl ?_
        exact gx_sub [2, 3, 4, 0] rfl hs
      · have hs := hf hc
        refine gx_iload_n C dM_fitting_34 3 rfl rfl ?_
        obtain ⟨ht, hf⟩ := hs
        refine gx_if_lt C dM_fitting_35 83 rfl (fun hc => ?_) (fun hc => ?_)
        · have hs := ht hc
          refine gx_iload_n C dM_fitting_83 4 rfl rfl ?_
          refine gx_istore_n (L' := [(2, .int v3), (4, .int y1), (0, .ref (o 0)), (1, .int v1), (3, .int v3)]) C dM_fitting_84 rfl (by decide) rfl ?_
          refine gx_iinc (v0 := 1) (f := fun v => [(3, .int v), (2, .int v3), (4, .int y1), (0, .ref (o 0)), (1, .int v1)]) C dM_fitting_85 4 rfl (by decide) (by decide) (fun _ => rfl) (fun y3 ey3 => ?_)
          replace hs := hs y3 ey3
          refine gx_goto C dM_fitting_88 4 rfl ?_
          exact gx_sub [3, 4, 1, 0] rfl hs
        · have hs := hf hc
          refine gx_aload_n C dM_fitting_38 1 rfl rfl ?_
          refine gx_get C mo_this hi_M 11 (by decide) fl_M_32 rfl dM_fitting_39 ?_
          refine gx_iload_n C dM_fitting_42 4 rfl rfl ?_
          obtain ⟨hin, hs⟩ := hs
          refine gx_iald C ma_lengths hin dM_fitting_43 ?_
          refine gx_aload_n C dM_fitting_44 1 rfl rfl ?_
          refine gx_get C mo_this hi_M 11 (by decide) fl_M_32 rfl dM_fitting_45 ?_
          refine gx_iload_n C dM_fitting_48 3 rfl rfl ?_
          obtain ⟨hin, hs⟩ := hs
          refine gx_iald C ma_lengths hin dM_fitting_49 ?_
          obtain ⟨ht, hf⟩ := hs
          refine gx_icmp_lt C dM_fitting_50 83 rfl (fun hc => ?_) (fun hc => ?_)
          · have hs := ht hc
            refine gx_iload_n C dM_fitting_83 4 rfl rfl ?_
            refine gx_istore_n (L' := [(2, .int v3), (4, .int y1), (0, .ref (o 0)), (1, .int v1), (3, .int v3)]) C dM_fitting_84 rfl (by decide) rfl ?_
            refine gx_iinc (v0 := 1) (f := fun v => [(3, .int v), (2, .int v3), (4, .int y1), (0, .ref (o 0)), (1, .int v1)]) C dM_fitting_85 4 rfl (by decide) (by decide) (fun _ => rfl) (fun y4 ey4 => ?_)
            replace hs := hs y4 ey4
            refine gx_goto C dM_fitting_88 4 rfl ?_
            exact gx_sub [3, 4, 1, 0] rfl hs
          · have hs := hf hc
            refine gx_aload_n C dM_fitting_53 1 rfl rfl ?_
            refine gx_get C mo_this hi_M 11 (by decide) fl_M_32 rfl dM_fitting_54 ?_
            refine gx_iload_n C dM_fitting_57 4 rfl rfl ?_
            obtain ⟨hin, hs⟩ := hs
            refine gx_iald C ma_lengths hin dM_fitting_58 ?_
            refine gx_aload_n C dM_fitting_59 1 rfl rfl ?_
            refine gx_get C mo_this hi_M 11 (by decide) fl_M_32 rfl dM_fitting_60 ?_
            refine gx_iload_n C dM_fitting_63 3 rfl rfl ?_
            obtain ⟨hin, hs⟩ := hs
            refine gx_iald C ma_lengths hin dM_fitting_64 ?_
            obtain ⟨ht, hf⟩ := hs
            refine gx_icmp_ne C dM_fitting_65 85 rfl (fun hc => ?_) (fun hc => ?_)
            · have hs := ht hc
              refine gx_iinc (v0 := 1) (f := fun v => [(3, .int v), (4, .int y1), (0, .ref (o 0)), (1, .int v1), (2, .int v2)]) C dM_fitting_85 4 rfl (by decide) (by decide) (fun _ => rfl) (fun y5 ey5 => ?_)
              replace hs := hs y5 ey5
              refine gx_goto C dM_fitting_88 4 rfl ?_
              exact gx_sub [2, 3, 4, 0] rfl hs
            · have hs := hf hc
              refine gx_aload_n C dM_fitting_68 1 rfl rfl ?_
              refine gx_get C mo_this hi_M 12 (by decide) fl_M_35 rfl dM_fitting_69 ?_
              refine gx_iload_n C dM_fitting_72 4 rfl rfl ?_
              obtain ⟨hin, hs⟩ := hs
              refine gx_iald C ma_came hin dM_fitting_73 ?_
              refine gx_aload_n C dM_fitting_74 1 rfl rfl ?_
              refine gx_get C mo_this hi_M 12 (by decide) fl_M_35 rfl dM_fitting_75 ?_
              refine gx_iload_n C dM_fitting_78 3 rfl rfl ?_
              obtain ⟨hin, hs⟩ := hs
              refine gx_iald C ma_came hin dM_fitting_79 ?_
              obtain ⟨ht, hf⟩ := hs
              refine gx_icmp_le C dM_fitting_80 85 rfl (fun hc => ?_) (fun hc => ?_)
              · have hs := ht hc
                refine gx_iinc (v0 := 1) (f := fun v => [(3, .int v), (4, .int y1), (0, .ref (o 0)), (1, .int v1), (2, .int v2)]) C dM_fitting_85 4 rfl (by decide) (by decide) (fun _ => rfl) (fun y6 ey6 => ?_)
                replace hs := hs y6 ey6
                refine gx_goto C dM_fitting_88 4 rfl ?_
                exact gx_sub [2, 3, 4, 0] rfl hs
              · have hs := hf hc
                refine gx_iload_n C dM_fitting_83 4 rfl rfl ?_
                refine gx_istore_n (L' := [(2, .int v3), (4, .int y1), (0, .ref (o 0)), (1, .int v1), (3, .int v3)]) C dM_fitting_84 rfl (by decide) rfl ?_
                refine gx_iinc (v0 := 1) (f := fun v => [(3, .int v), (2, .int v3), (4, .int y1), (0, .ref (o 0)), (1, .int v1)]) C dM_fitting_85 4 rfl (by decide) (by decide) (fun _ => rfl) (fun y7 ey7 => ?_)
                replace hs := hs y7 ey7
                refine gx_goto C dM_fitting_88 4 rfl ?_
                exact gx_sub [3, 4, 1, 0] rfl hs
    · have hs := hf hc
      refine gx_iconst (v := 1) C dM_fitting_22 (by decide) ?_
      refine gx_goto C dM_fitting_23 27 rfl ?_
      refine gx_top (fun y8 ey8 => ?_)
      replace hs := hs y8 ey8
      refine gx_istore (L' := [(4, .int y8), (0, .ref (o 0)), (1, .int v1), (2, .int v2), (3, .int v3)]) C dM_fitting_27 (by decide) rfl ?_
      refine gx_iload C dM_fitting_29 0 rfl ?_
      obtain ⟨ht, hf⟩ := hs
      refine gx_if_eq C dM_fitting_31 85 rfl (fun hc => ?_) (fun hc => ?_)
      · have hs := ht hc
        refine gx_iinc (v0 := 1) (f := fun v => [(3, .int v), (4, .int y8), (0, .ref (o 0)), (1, .int v1), (2, .int v2)]) C dM_fitting_85 4 rfl (by decide) (by decide) (fun _ => rfl) (fun y9 ey9 => ?_)
        replace hs := hs y9 ey9
        refine gx_goto C dM_fitting_88 4 rfl ?_
        exact gx_sub [2, 3, 4, 0] rfl hs
      · have hs := hf hc
        refine gx_iload_n C dM_fitting_34 3 rfl rfl ?_
        obtain ⟨ht, hf⟩ := hs
        refine gx_if_lt C dM_fitting_35 83 rfl (fun hc => ?_) (fun hc => ?_)
        · have hs := ht hc
          refine gx_iload_n C dM_fitting_83 4 rfl rfl ?_
          refine gx_istore_n (L' := [(2, .int v3), (4, .int y8), (0, .ref (o 0)), (1, .int v1), (3, .int v3)]) C dM_fitting_84 rfl (by decide) rfl ?_
          refine gx_iinc (v0 := 1) (f := fun v => [(3, .int v), (2, .int v3), (4, .int y8), (0, .ref (o 0)), (1, .int v1)]) C dM_fitting_85 4 rfl (by decide) (by decide) (fun _ => rfl) (fun y10 ey10 => ?_)
          replace hs := hs y10 ey10
          refine gx_goto C dM_fitting_88 4 rfl ?_
          exact gx_sub [3, 4, 1, 0] rfl hs
        · have hs := hf hc
          refine gx_aload_n C dM_fitting_38 1 rfl rfl ?_
          refine gx_get C mo_this hi_M 11 (by decide) fl_M_32 rfl dM_fitting_39 ?_
          refine gx_iload_n C dM_fitting_42 4 rfl rfl ?_
          obtain ⟨hin, hs⟩ := hs
          refine gx_iald C ma_lengths hin dM_fitting_43 ?_
          refine gx_aload_n C dM_fitting_44 1 rfl rfl ?_
          refine gx_get C mo_this hi_M 11 (by decide) fl_M_32 rfl dM_fitting_45 ?_
          refine gx_iload_n C dM_fitting_48 3 rfl rfl ?_
          obtain ⟨hin, hs⟩ := hs
          refine gx_iald C ma_lengths hin dM_fitting_49 ?_
          obtain ⟨ht, hf⟩ := hs
          refine gx_icmp_lt C dM_fitting_50 83 rfl (fun hc => ?_) (fun hc => ?_)
          · have hs := ht hc
            refine gx_iload_n C dM_fitting_83 4 rfl rfl ?_
            refine gx_istore_n (L' := [(2, .int v3), (4, .int y8), (0, .ref (o 0)), (1, .int v1), (3, .int v3)]) C dM_fitting_84 rfl (by decide) rfl ?_
            refine gx_iinc (v0 := 1) (f := fun v => [(3, .int v), (2, .int v3), (4, .int y8), (0, .ref (o 0)), (1, .int v1)]) C dM_fitting_85 4 rfl (by decide) (by decide) (fun _ => rfl) (fun y11 ey11 => ?_)
            replace hs := hs y11 ey11
            refine gx_goto C dM_fitting_88 4 rfl ?_
            exact gx_sub [3, 4, 1, 0] rfl hs
          · have hs := hf hc
            refine gx_aload_n C dM_fitting_53 1 rfl rfl ?_
            refine gx_get C mo_this hi_M 11 (by decide) fl_M_32 rfl dM_fitting_54 ?_
            refine gx_iload_n C dM_fitting_57 4 rfl rfl ?_
            obtain ⟨hin, hs⟩ := hs
            refine gx_iald C ma_lengths hin dM_fitting_58 ?_
            refine gx_aload_n C dM_fitting_59 1 rfl rfl ?_
            refine gx_get C mo_this hi_M 11 (by decide) fl_M_32 rfl dM_fitting_60 ?_
            refine gx_iload_n C dM_fitting_63 3 rfl rfl ?_
            obtain ⟨hin, hs⟩ := hs
            refine gx_iald C ma_lengths hin dM_fitting_64 ?_
            obtain ⟨ht, hf⟩ := hs
            refine gx_icmp_ne C dM_fitting_65 85 rfl (fun hc => ?_) (fun hc => ?_)
            · have hs := ht hc
              refine gx_iinc (v0 := 1) (f := fun v => [(3, .int v), (4, .int y8), (0, .ref (o 0)), (1, .int v1), (2, .int v2)]) C dM_fitting_85 4 rfl (by decide) (by decide) (fun _ => rfl) (fun y12 ey12 => ?_)
              replace hs := hs y12 ey12
              refine gx_goto C dM_fitting_88 4 rfl ?_
              exact gx_sub [2, 3, 4, 0] rfl hs
            · have hs := hf hc
              refine gx_aload_n C dM_fitting_68 1 rfl rfl ?_
              refine gx_get C mo_this hi_M 12 (by decide) fl_M_35 rfl dM_fitting_69 ?_
              refine gx_iload_n C dM_fitting_72 4 rfl rfl ?_
              obtain ⟨hin, hs⟩ := hs
              refine gx_iald C ma_came hin dM_fitting_73 ?_
              refine gx_aload_n C dM_fitting_74 1 rfl rfl ?_
              refine gx_get C mo_this hi_M 12 (by decide) fl_M_35 rfl dM_fitting_75 ?_
              refine gx_iload_n C dM_fitting_78 3 rfl rfl ?_
              obtain ⟨hin, hs⟩ := hs
              refine gx_iald C ma_came hin dM_fitting_79 ?_
              obtain ⟨ht, hf⟩ := hs
              refine gx_icmp_le C dM_fitting_80 85 rfl (fun hc => ?_) (fun hc => ?_)
              · have hs := ht hc
                refine gx_iinc (v0 := 1) (f := fun v => [(3, .int v), (4, .int y8), (0, .ref (o 0)), (1, .int v1), (2, .int v2)]) C dM_fitting_85 4 rfl (by decide) (by decide) (fun _ => rfl) (fun y13 ey13 => ?_)
                replace hs := hs y13 ey13
                refine gx_goto C dM_fitting_88 4 rfl ?_
                exact gx_sub [2, 3, 4, 0] rfl hs
              · have hs := hf hc
                refine gx_iload_n C dM_fitting_83 4 rfl rfl ?_
                refine gx_istore_n (L' := [(2, .int v3), (4, .int y8), (0, .ref (o 0)), (1, .int v1), (3, .int v3)]) C dM_fitting_84 rfl (by decide) rfl ?_
                refine gx_iinc (v0 := 1) (f := fun v => [(3, .int v), (2, .int v3), (4, .int y8), (0, .ref (o 0)), (1, .int v1)]) C dM_fitting_85 4 rfl (by decide) (by decide) (fun _ => rfl) (fun y14 ey14 => ?_)
                replace hs := hs y14 ey14
                refine gx_goto C dM_fitting_88 4 rfl ?_
                exact gx_sub [3, 4, 1, 0] rfl hs
set_option maxHeartbeats 4000000 in
set_option maxRecDepth 100000 in
theorem mt_M_fitting (l : Launch) (dC : Nat → ClassId) (dI : Nat → Nat → Nat) (cI cZ : ClassId) (o : Nat → Nat) (v1 : Int32) (S : GS) (post : Int32 → GS → Prop) (h : wp_M_fitting [v1] S post) : MetI l yM_fitting (Cond.code yM_fitting cM_fitting 5 (some .int) :: wsA) ({ frames := 0, cells := 0, slots := 0, locals := 0 }) (dC, dI) gx_cl [(cI, .int), (cZ, .boolean)] (mw cI cZ o) [.ref (o 0), .int v1] S post := by
  refine gx_metI (by decide) wsA_good (Nat.le_of_ble_eq_true rfl) ?_
  intro p e s m args below meth c A C hr hlocks
  refine h (vh_M_fitting o (GV p l e ({ frames := 0, cells := 0, slots := 0, locals := 0 }) s m args below meth c (MQ below (va_Qi post (GB (mw cI cZ o) (dC, dI) gx_cl [(cI, .int), (cZ, .boolean)] A) A) args s 0 0 A) 5 (dC, dI) gx_cl A (mw cI cZ o))) (fun h S xs hs => ?_)
  unfold sp_M_fitting at hs
  split at hs
  · exact wk_M_fitting_0 C hr hlocks _ _ hs
  · exact wk_M_fitting_4 C hr hlocks _ _ _ _ hs
  · exact hs.elim
/-- CountedObjectsModel.pack()I: a step from head to head -/
def sp_M_pack (post : Int32 → GS → Prop) (V : Nat → GS → List Int32 → Prop) (h : Nat) (S : GS) (xs : List Int32) : Prop := match h, xs with
  | 0, [] => ∀ y1 : Int32, y1 = 0 → ∀ y2 : Int32, y2 = 0 → ∀ y3 : Int32, y3 = 1 → V 6 S [y1, y2, y3]
  | 6, [v1, v2, v3] => ((v3 = 0 → (∀ S1 : GS, S1 = gx_set 100 3 0 S → (((S1 100 1) ≤ v2 → post v1 S1) ∧ (¬ (S1 100 1) ≤ v2 → wp_M_give  [v2, (S1 100 1) - v2] S1 (fun S2 => post v1 S2))))) ∧ (¬ v3 = 0 → ∀ y4 : Int32, y4 = 0 → ∀ y5 : Int32, y5 = 1 → V 16 S [v1, v2, v3, y4, y5]))
  | 16, [v1, v2, v3, v4, v5] => (((S 100 2) < v5 → ((v4 ≤ 0 → ∀ y1 : Int32, y1 = 0 → ((y1 = 0 → V 6 S [v1, v2, y1]) ∧ (¬ y1 = 0 → (vp_in v4 41 ∧ ∀ y2 : Int32, y2 = S 2 (v4).toNatClampNeg → (vp_in v4 41 ∧ ∀ y3 : Int32, y3 = (S 3 (v4).toNatClampNeg) + 2 → ∀ y4 : Int32, y4 = 0 → V 116 S [v1, v2, y1, v4, y2, y3, y4]))))) ∧ (¬ v4 ≤ 0 → ∀ y5 : Int32, y5 = 1 → ((y5 = 0 → V 6 S [v1, v2, y5]) ∧ (¬ y5 = 0 → (vp_in v4 41 ∧ ∀ y6 : Int32, y6 = S 2 (v4).toNatClampNeg → (vp_in v4 41 ∧ ∀ y7 : Int32, y7 = (S 3 (v4).toNatClampNeg) + 2 → ∀ y8 : Int32, y8 = 0 → V 116 S [v1, v2, y5, v4, y6, y7, y8]))))))) ∧ (¬ (S 100 2) < v5 → (vp_in v5 41 ∧ (((S 1 (v5).toNatClampNeg) = 0 → (∀ y9 : Int32, y9 = v5 + 1 → V 16 S [v1, v2, v3, v4, y9])) ∧ (¬ (S 1 (v5).toNatClampNeg) = 0 → (vp_in v5 41 ∧ (((S 2 (v5).toNatClampNeg) < v2 → (∀ y10 : Int32, y10 = v5 + 1 → V 16 S [v1, v2, v3, v4, y10])) ∧ (¬ (S 2 (v5).toNatClampNeg) < v2 → ((v4 = 0 → (∀ y11 : Int32, y11 = v5 + 1 → V 16 S [v1, v2, v3, v5, y11])) ∧ (¬ v4 = 0 → (vp_in v5 41 ∧ (vp_in v4 41 ∧ (((S 2 (v4).toNatClampNeg) ≤ (S 2 (v5).toNatClampNeg) → (∀ y12 : Int32, y12 = v5 + 1 → V 16 S [v1, v2, v3, v4, y12])) ∧ (¬ (S 2 (v4).toNatClampNeg) ≤ (S 2 (v5).toNatClampNeg) → (∀ y13 : Int32, y13 = v5 + 1 → V 16 S [v1, v2, v3, v5, y13])))))))))))))))
  | 116, [v1, v2, v3, v4, v5, v6, v7] => ((v6 ≤ v7 → ((v5 = v2 → (vp_in v4 41 ∧ ∀ S1 : GS, S1 = gx_set 2 (v4).toNatClampNeg v2 S → ∀ y2 : Int32, y2 = v2 + v6 → V 6 S1 [v1, y2, v3])) ∧ (¬ v5 = v2 → ∀ y3 : Int32, y3 = v1 + 1 → (vp_in v4 41 ∧ ∀ S4 : GS, S4 = gx_set 2 (v4).toNatClampNeg v2 S → ∀ y5 : Int32, y5 = v2 + v6 → V 6 S4 [y3, y5, v3])))) ∧ (¬ v6 ≤ v7 → (vp_in (v5 + v7) 400 ∧ (vp_in (v2 + v7) 400 ∧ ∀ S6 : GS, S6 = gx_set 5 (v2 + v7).toNatClampNeg (S 5 (v5 + v7).toNatClampNeg) S → (∀ y7 : Int32, y7 = v7 + 1 → V 116 S6 [v1, v2, v3, v4, v5, v6, y7])))))
  | _, _ => False
def wp_M_pack (xs : List Int32) (S : GS) (post : Int32 → GS → Prop) : Prop := ∀ V : Nat → GS → List Int32 → Prop, (∀ h S xs, sp_M_pack post V h S xs → V h S xs) → V 0 S xs
def vh_M_pack (o : Nat → Nat) (G : GS → Nat → List (Nat × Value) → List Value → Prop) (h : Nat) (S : GS) (xs : List Int32) : Prop := match h, xs with
  | 0, [] => G S 0 [(0, .ref (o 0))] []
  | 6, [v1, v2, v3] => G S 6 [(0, .ref (o 0)), (1, .int v1), (2, .int v2), (3, .int v3)] []
  | 16, [v1, v2, v3, v4, v5] => G S 16 [(0, .ref (o 0)), (1, .int v1), (2, .int v2), (3, .int v3), (4, .int v4), (5, .int v5)] []
  | 116, [v1, v2, v3, v4, v5, v6, v7] => G S 116 [(0, .ref (o 0)), (1, .int v1), (2, .int v2), (3, .int v3), (4, .int v4), (5, .int v5), (6, .int v6), (7, .int v7)] []
  | _, _ => True
set_option maxHeartbeats 4000000 in
set_option maxRecDepth 100000 in
theorem wk_M_pack_0 {l : Launch} {dC : Nat → ClassId} {dI : Nat → Nat → Nat} {cI cZ : ClassId} {o : Nat → Nat}  {p : Program} {e : Env} {s : State} {m : MethodId} {args : Array Value} {below : List Frame} {meth : Method} {c : Code} {A : Nat → Prop} {post : Int32 → GS → Prop} (C : GC p s m args c cM_pack 8 RM wsA (dC, dI) gx_cl [(cI, .int), (cZ, .boolean)] A) (hr : meth.sig.returnType = (some .int)) (hlocks : meth.locks = false) (S : GS) (hs : sp_M_pack post (vh_M_pack o (GV p l e ({ frames := 1, cells := 0, slots := 0, locals := 22 }) s m args below meth c (MQ below (va_Qi post (GB (mw cI cZ o) (dC, dI) gx_cl [(cI, .int), (cZ, .boolean)] A) A) args s 0 0 A) 8 (dC, dI) gx_cl A (mw cI cZ o))) 0 S []) : GV p l e ({ frames := 1, cells := 0, slots := 0, locals := 22 }) s m args below meth c (MQ below (va_Qi post (GB (mw cI cZ o) (dC, dI) gx_cl [(cI, .int), (cZ, .boolean)] A) A) args s 0 0 A) 8 (dC, dI) gx_cl A (mw cI cZ o) S 0 [(0, .ref (o 0))] [] := by
  refine gx_iconst (v := 0) C dM_pack_0 (by decide) ?_
  refine gx_top (fun y1 ey1 => ?_)
  replace hs := hs y1 ey1
  refine gx_istore_n (L' := [(1, .int y1), (0, .ref (o 0))]) C dM_pack_1 rfl (by decide) rfl ?_
  refine gx_iconst (v := 0) C dM_pack_2 (by decide) ?_
  refine gx_top (fun y2 ey2 => ?_)
  replace hs := hs y2 ey2
  refine gx_istore_n (L' := [(2, .int y2), (1, .int y1), (0, .ref (o 0))]) C dM_pack_3 rfl (by decide) rfl ?_
  refine gx_iconst (v := 1) C dM_pack_4 (by decide) ?_
  refine gx_top (fun y3 ey3 => ?_)
  replace hs := hs y3 ey3
  refine gx_istore_n (L' := [(3, .int y3), (2, .int y2), (1, .int y1), (0, .ref (o 0))]) C dM_pack_5 rfl (by decide) rfl ?_
  exact gx_sub [3, 2, 1, 0] rfl hs
set_option maxHeartbeats 4000000 in
set_option maxRecDepth 100000 in
theorem wk_M_pack_6 {l : Launch} {dC : Nat → ClassId} {dI : Nat → Nat → Nat} {cI cZ : ClassId} {o : Nat → Nat}  {p : Program} {e : Env} {s : State} {m : MethodId} {args : Array Value} {below : List Frame} {meth : Method} {c : Code} {A : Nat → Prop} {post : Int32 → GS → Prop} (C : GC p s m args c cM_pack 8 RM wsA (dC, dI) gx_cl [(cI, .int), (cZ, .boolean)] A) (hr : meth.sig.returnType = (some .int)) (hlocks : meth.locks = false) (S : GS) (v1 : Int32) (v2 : Int32) (v3 : Int32) (hs : sp_M_pack post (vh_M_pack o (GV p l e ({ frames := 1, cells := 0, slots := 0, locals := 22 }) s m args below meth c (MQ below (va_Qi post (GB (mw cI cZ o) (dC, dI) gx_cl [(cI, .int), (cZ, .boolean)] A) A) args s 0 0 A) 8 (dC, dI) gx_cl A (mw cI cZ o))) 6 S [v1, v2, v3]) : GV p l e ({ frames := 1, cells := 0, slots := 0, locals := 22 }) s m args below meth c (MQ below (va_Qi post (GB (mw cI cZ o) (dC, dI) gx_cl [(cI, .int), (cZ, .boolean)] A) A) args s 0 0 A) 8 (dC, dI) gx_cl A (mw cI cZ o) S 6 [(0, .ref (o 0)), (1, .int v1), (2, .int v2), (3, .int v3)] [] := by
  refine gx_iload_n C dM_pack_6 3 rfl rfl ?_
  obtain ⟨ht, hf⟩ := hs
  refine gx_if_eq C dM_pack_7 178 rfl (fun hc => ?_) (fun hc => ?_)
  · have hs := ht hc
    refine gx_aload_n C dM_pack_178 0 rfl rfl ?_
    refine gx_iconst (v := 0) C dM_pack_179 (by decide) ?_
    refine gx_put C mo_this hi_M tyM tyM_ok nmM 9 (by decide) fl_M_68 rfl (by decide +kernel) (Nat.le_of_ble_eq_true rfl) (mp_frees _ _) dM_pack_180 (fun S1 eS1 => ?_)
    replace hs := hs S1 eS1
    refine gx_iload_n C dM_pack_183 2 rfl rfl ?_
    refine gx_aload_n C dM_pack_184 0 rfl rfl ?_
    refine gx_get C mo_this hi_M 1 (by decide) fl_M_47 rfl dM_pack_185 ?_
    obtain ⟨ht, hf⟩ := hs
    refine gx_icmp_ge C dM_pack_188 202 rfl (fun hc => ?_) (fun hc => ?_)
    · have hs := ht hc
      refine gx_iload_n C dM_pack_202 1 rfl rfl ?_
      exact gx_iret C hr hlocks dM_pack_203 hs
    · have hs := hf hc
      refine gx_aload_n C dM_pack_191 0 rfl rfl ?_
      refine gx_iload_n C dM_pack_192 2 rfl rfl ?_
      refine gx_aload_n C dM_pack_193 0 rfl rfl ?_
      refine gx_get C mo_this hi_M 1 (by decide) fl_M_47 rfl dM_pack_194 ?_
      refine gx_iload_n C dM_pack_197 2 rfl rfl ?_
      refine gx_isub C dM_pack_198 ?_
      refine gx_callv (As := [.int v2, .int ((S1 100 1) - v2)]) (rest := []) C (mt_M_give l dC dI cI cZ o  _ _ _ _ hs) (gx_cwV C 2 ln_M_54 im_M_give se_M_give in_CountedObjectsModel cd_M_give rfl rfl (by decide +kernel) ⟨Nat.le_of_ble_eq_true rfl, Nat.le_of_ble_eq_true rfl⟩) mo_this rfl (Nat.le_of_ble_eq_true rfl) dM_pack_199 (fun S1 => mw_ad _ S1) rfl (fun S2 hs => ?_)
      refine gx_iload_n C dM_pack_202 1 rfl rfl ?_
      exact gx_iret C hr hlocks dM_pack_203 hs
  · have hs := hf hc
    refine gx_iconst (v := 0) C dM_pack_10 (by decide) ?_
    refine gx_top (fun y4 ey4 => ?_)
    replace hs := hs y4 ey4
    refine gx_istore (L' := [(4, .int y4), (0, .ref (o 0)), (1, .int v1), (2, .int v2), (3, .int v3)]) C dM_pack_11 (by decide) rfl ?_
    refine gx_iconst (v := 1) C dM_pack_13 (by decide) ?_
    refine gx_top (fun y5 ey5 => ?_)
    replace hs := hs y5 ey5
    refine gx_istore (L' := [(5, .int y5), (4, .int y4), (0, .ref (o 0)), (1, .int v1), (2, .int v2), (3, .int v3)]) C dM_pack_14 (by decide) rfl ?_
    exact gx_sub [2, 3, 4, 5, 1, 0] rfl hs
set_option maxHeartbeats 4000000 in
set_option maxRecDepth 100000 in
theorem wk_M_pack_16 {l : Launch} {dC : Nat → ClassId} {dI : Nat → Nat → Nat} {cI cZ : ClassId} {o : Nat → Nat}  {p : Program} {e : Env} {s : State} {m : MethodId} {args : Array Value} {below : List Frame} {meth : Method} {c : Code} {A : Nat → Prop} {post : Int32 → GS → Prop} (C : GC p s m args c cM_pack 8 RM wsA (dC, dI) gx_cl [(cI, .int), (cZ, .boolean)] A) (hr : meth.sig.returnType = (some .int)) (hlocks : meth.locks = false) (S : GS) (v1 : Int32) (v2 : Int32) (v3 : Int32) (v4 : Int32) (v5 : Int32) (hs : sp_M_pack post (vh_M_pack o (GV p l e ({ frames := 1, cells := 0, slots := 0, locals := 22 }) s m args below meth c (MQ below (va_Qi post (GB (mw cI cZ o) (dC, dI) gx_cl [(cI, .int), (cZ, .boolean)] A) A) args s 0 0 A) 8 (dC, dI) gx_cl A (mw cI cZ o))) 16 S [v1, v2, v3, v4, v5]) : GV p l e ({ frames := 1, cells := 0, slots := 0, locals := 22 }) s m args below meth c (MQ below (va_Qi post (GB (mw cI cZ o) (dC, dI) gx_cl [(cI, .int), (cZ, .boolean)] A) A) args s 0 0 A) 8 (dC, dI) gx_cl A (mw cI cZ o) S 16 [(0, .ref (o 0)), (1, .int v1), (2, .int v2), (3, .int v3), (4, .int v4), (5, .int v5)] [] := by
  refine gx_iload C dM_pack_16 5 rfl ?_
  refine gx_aload_n C dM_pack_18 0 rfl rfl ?_
  refine gx_get C mo_this hi_M 2 (by decide) fl_M_51 rfl dM_pack_19 ?_
  obtain ⟨ht, hf⟩ := hs
  refine gx_icmp_gt C dM_pack_22 78 rfl (fun hc => ?_) (fun hc => ?_)
  · have hs := ht hc
    refine gx_iload C dM_pack_78 4 rfl ?_
    obtain ⟨ht, hf⟩ := hs
    refine gx_if_le C dM_pack_80 87 rfl (fun hc => ?_) (fun hc => ?_)
    · have hs := ht hc
      refine gx_iconst (v := 0) C dM_pack_87 (by decide) ?_
      refine gx_top (fun y1 ey1 => ?_)
      replace hs := hs y1 ey1
      refine gx_istore_n (L' := [(3, .int y1), (0, .ref (o 0)), (1, .int v1), (2, .int v2), (4, .int v4), (5, .int v5)]) C dM_pack_88 rfl (by decide) rfl ?_
      refine gx_iload_n C dM_pack_89 0 rfl rfl ?_
      obtain ⟨ht, hf⟩ := hs
      refine gx_if_eq C dM_pack_90 175 rfl (fun hc => ?_) (fun hc => ?_)
      · have hs := ht hc
        refine gx_goto C dM_pack_175 6 rfl ?_
        exact gx_sub [1, 2, 3, 0] rfl hs
      · have hs := hf hc
        refine gx_aload_n C dM_pack_93 1 rfl rfl ?_
        refine gx_get C mo_this hi_M 5 (by decide) fl_M_17 rfl dM_pack_94 ?_
        refine gx_iload C dM_pack_97 4 rfl ?_
        obtain ⟨hin, hs⟩ := hs
        refine gx_iald C ma_addresses hin dM_pack_99 ?_
        refine gx_top (fun y2 ey2 => ?_)
        replace hs := hs y2 ey2
        refine gx_istore (L' := [(5, .int y2), (3, .int y1), (0, .ref (o 0)), (1, .int v1), (2, .int v2), (4, .int v4)]) C dM_pack_100 (by decide) rfl ?_
        refine gx_aload_n C dM_pack_102 2 rfl rfl ?_
        refine gx_get C mo_this hi_M 6 (by decide) fl_M_20 rfl dM_pack_103 ?_
        refine gx_iload C dM_pack_106 5 rfl ?_
        obtain ⟨hin, hs⟩ := hs
        refine gx_iald C ma_sizes hin dM_pack_108 ?_
        refine gx_iconst (v := 2) C dM_pack_109 (by decide) ?_
        refine gx_iadd C dM_pack_110 ?_
        refine gx_top (fun y3 ey3 => ?_)
        replace hs := hs y3 ey3
        refine gx_istore (L' := [(6, .int y3), (5, .int y2), (3, .int y1), (0, .ref (o 0)), (1, .int v1), (2, .int v2), (4, .int v4)]) C dM_pack_111 (by decide) rfl ?_
        refine gx_iconst (v := 0) C dM_pack_113 (by decide) ?_
        refine gx_top (fun y4 ey4 => ?_)
        replace hs := hs y4 ey4
        refine gx_istore (L' := [(7, .int y4), (6, .int y3), (5, .int y2), (3, .int y1), (0, .ref (o 0)), (1, .int v1), (2, .int v2), (4, .int v4)]) C dM_pack_114 (by decide) rfl ?_
        exact gx_sub [4, 5, 6, 3, 7, 2, 1, 0] rfl hs
    · have hs := hf hc
      refine gx_iconst (v := 1) C dM_pack_83 (by decide) ?_
      refine gx_goto C dM_pack_84 88 rfl ?_
      refine gx_top (fun y5 ey5 => ?_)
      replace hs := hs y5 ey5
      refine gx_istore_n (L' := [(3, .int y5), (0, .ref (o 0)), (1, .int v1), (2, .int v2), (4, .int v4), (5, .int v5)]) C dM_pack_88 rfl (by decide) rfl ?_
      refine gx_iload_n C dM_pack_89 0 rfl rfl ?_
      obtain ⟨ht, hf⟩ := hs
      refine gx_if_eq C dM_pack_90 175 rfl (fun hc => ?_) (fun hc => ?_)
      · have hs := ht hc
        refine gx_goto C dM_pack_175 6 rfl ?_
        exact gx_sub [1, 2, 3, 0] rfl hs
      · have hs := hf hc
        refine gx_aload_n C dM_pack_93 1 rfl rfl ?_
        refine gx_get C mo_this hi_M 5 (by decide) fl_M_17 rfl dM_pack_94 ?_
        refine gx_iload C dM_pack_97 4 rfl ?_
        obtain ⟨hin, hs⟩ := hs
        refine gx_iald C ma_addresses hin dM_pack_99 ?_
        refine gx_top (fun y6 ey6 => ?_)
        replace hs := hs y6 ey6
        refine gx_istore (L' := [(5, .int y6), (3, .int y5), (0, .ref (o 0)), (1, .int v1), (2, .int v2), (4, .int v4)]) C dM_pack_100 (by decide) rfl ?_
        refine gx_aload_n C dM_pack_102 2 rfl rfl ?_
        refine gx_get C mo_this hi_M 6 (by decide) fl_M_20 rfl dM_pack_103 ?_
        refine gx_iload C dM_pack_106 5 rfl ?_
        obtain ⟨hin, hs⟩ := hs
        refine gx_iald C ma_sizes hin dM_pack_108 ?_
        refine gx_iconst (v := 2) C dM_pack_109 (by decide) ?_
        refine gx_iadd C dM_pack_110 ?_
        refine gx_top (fun y7 ey7 => ?_)
        replace hs := hs y7 ey7
        refine gx_istore (L' := [(6, .int y7), (5, .int y6), (3, .int y5), (0, .ref (o 0)), (1, .int v1), (2, .int v2), (4, .int v4)]) C dM_pack_111 (by decide) rfl ?_
        refine gx_iconst (v := 0) C dM_pack_113 (by decide) ?_
        refine gx_top (fun y8 ey8 => ?_)
        replace hs := hs y8 ey8
        refine gx_istore (L' := [(7, .int y8), (6, .int y7), (5, .int y6), (3, .int y5), (0, .ref (o 0)), (1, .int v1), (2, .int v2), (4, .int v4)]) C dM_pack_114 (by decide) rfl ?_
        exact gx_sub [4, 5, 6, 3, 7, 2, 1, 0] rfl hs
  · have hs := hf hc
    refine gx_aload_n C dM_pack_25 0 rfl rfl ?_
    refine gx_get C mo_this hi_M 4 (by decide) fl_M_13 rfl dM_pack_26 ?_
    refine gx_iload C dM_pack_29 5 rfl ?_
    obtain ⟨hin, hs⟩ := hs
    refine gx_zald C ma_lives hin dM_pack_31 ?_
    obtain ⟨ht, hf⟩ := hs
    refine gx_if_eq C dM_pack_32 72 rfl (fun hc => ?_) (fun hc => ?_)
    · have hs := ht hc
      refine gx_iinc (v0 := 1) (f := fun v => [(5, .int v), (0, .ref (o 0)), (1, .int v1), (2, .int v2), (3, .int v3), (4, .int v4)]) C dM_pack_72 5 rfl (by decide) (by decide) (fun _ => rfl) (fun y9 ey9 => ?_)
      replace hs := hs y9 ey9
      refine gx_goto C dM_pack_75 16 rfl ?_
      exact gx_sub [1, 2, 3, 4, 5, 0] rfl hs
    · have hs := hf hc
      refine gx_aload_n C dM_pack_35 0 rfl rfl ?_
      refine gx_get C mo_this hi_M 5 (by decide) fl_M_17 rfl dM_pack_36 ?_
      refine gx_iload C dM_pack_39 5 rfl ?_
      obtain ⟨hin, hs⟩ := hs
      refine gx_iald C ma_addresses hin dM_pack_41 ?_
      refine gx_iload_n C dM_pack_42 2 rfl rfl ?_
      obtain ⟨ht, hf⟩ := hs
      refine gx_icmp_lt C dM_pack_43 72 rfl (fun hc => ?_) (fun hc => ?_)
      · have hs := ht hc
        refine gx_iinc (v0 := 1) (f := fun v => [(5, .int v), (0, .ref (o 0)), (1, .int v1), (2, .int v2), (3, .int v3), (4, .int v4)]) C dM_pack_72 5 rfl (by decide) (by decide) (fun _ => rfl) (fun y10 ey10 => ?_)
        replace hs := hs y10 ey10
        refine gx_goto C dM_pack_75 16 rfl ?_
        exact gx_sub [1, 2, 3, 4, 5, 0] rfl hs
      · have hs := hf hc
        refine gx_iload C dM_pack_46 4 rfl ?_
        obtain ⟨ht, hf⟩ := hs
        refine gx_if_eq C dM_pack_48 68 rfl (fun hc => ?_) (fun hc => ?_)
        · have hs := ht hc
          refine gx_iload C dM_pack_68 5 rfl ?_
          refine gx_istore (L' := [(4, .int v5), (0, .ref (o 0)), (1, .int v1), (2, .int v2), (3, .int v3), (5, .int v5)]) C dM_pack_70 (by decide) rfl ?_
          refine gx_iinc (v0 := 1) (f := fun v => [(5, .int v), (4, .int v5), (0, .ref (o 0)), (1, .int v1), (2, .int v2), (3, .int v3)]) C dM_pack_72 5 rfl (by decide) (by decide) (fun _ => rfl) (fun y11 ey11 => ?_)
          replace hs := hs y11 ey11
          refine gx_goto C dM_pack_75 16 rfl ?_
          exact gx_sub [2, 3, 4, 5, 1, 0] rfl hs
        · have hs := hf hc
          refine gx_aload_n C dM_pack_51 0 rfl rfl ?_
          refine gx_get C mo_this hi_M 5 (by decide) fl_M_17 rfl dM_pack_52 ?_
          refine gx_iload C dM_pack_55 5 rfl ?_
          obtain ⟨hin, hs⟩ := hs
          refine gx_iald C ma_addresses hin dM_pack_57 ?_
          refine gx_aload_n C dM_pack_58 0 rfl rfl ?_
          refine gx_get C mo_this hi_M 5 (by decide) fl_M_17 rfl dM_pack_59 ?_
          refine gx_iload C dM_pack_62 4 rfl ?_
          obtain ⟨hin, hs⟩ := hs
          refine gx_iald C ma_addresses hin dM_pack_64 ?_
          obtain ⟨ht, hf⟩ := hs
          refine gx_icmp_ge C dM_pack_65 72 rfl (fun hc => ?_) (fun hc => ?_)
          · have hs := ht hc
            refine gx_iinc (v0 := 1) (f := fun v => [(5, .int v), (0, .ref (o 0)), (1, .int v1), (2, .int v2), (3, .int v3), (4, .int v4)]) C dM_pack_72 5 rfl (by decide) (by decide) (fun _ => rfl) (fun y12 ey12 => ?_)
            replace hs := hs y12 ey12
            refine gx_goto C dM_pack_75 16 rfl ?_
            exact gx_sub [1, 2, 3, 4, 5, 0] rfl hs
          · have hs := hf hc
            refine gx_iload C dM_pack_68 5 rfl ?_
            refine gx_istore (L' := [(4, .int v5), (0, .ref (o 0)), (1, .int v1), (2, .int v2), (3, .int v3), (5, .int v5)]) C dM_pack_70 (by decide) rfl ?_
            refine gx_iinc (v0 := 1) (f := fun v => [(5, .int v), (4, .int v5), (0, .ref (o 0)), (1, .int v1), (2, .int v2), (3, .int v3)]) C dM_pack_72 5 rfl (by decide) (by decide) (fun _ => rfl) (fun y13 ey13 => ?_)
            replace hs := hs y13 ey13
            refine gx_goto C dM_pack_75 16 rfl ?_
            exact gx_sub [2, 3, 4, 5, 1, 0] rfl hs
set_option maxHeartbeats 4000000 in
set_option maxRecDepth 100000 in
theorem wk_M_pack_116 {l : Launch} {dC : Nat → ClassId} {dI : Nat → Nat → Nat} {cI cZ : ClassId} {o : Nat → Nat}  {p : Program} {e : Env} {s : State} {m : MethodId} {args : Array Value} {below : List Frame} {meth : Method} {c : Code} {A : Nat → Prop} {post : Int32 → GS → Prop} (C : GC p s m args c cM_pack 8 RM wsA (dC, dI) gx_cl [(cI, .int), (cZ, .boolean)] A) (hr : meth.sig.returnType = (some .int)) (hlocks : meth.locks = false) (S : GS) (v1 : Int32) (v2 : Int32) (v3 : Int32) (v4 : Int32) (v5 : Int32) (v6 : Int32) (v7 : Int32) (hs : sp_M_pack post (vh_M_pack o (GV p l e ({ frames := 1, cells := 0, slots := 0, locals := 22 }) s m args below meth c (MQ below (va_Qi post (GB (mw cI cZ o) (dC, dI) gx_cl [(cI, .int), (cZ, .boolean)] A) A) args s 0 0 A) 8 (dC, dI) gx_cl A (mw cI cZ o))) 116 S [v1, v2, v3, v4, v5, v6, v7]) : GV p l e ({ frames := 1, cells := 0, slots := 0, locals := 22 }) s m args below meth c (MQ below (va_Qi post (GB (mw cI cZ o) (dC, dI) gx_cl [(cI, .int), (cZ, .boolean)] A) A) args s 0 0 A) 8 (dC, dI) gx_cl A (mw cI cZ o) S 116 [(0, .ref (o 0)), (1, .int v1), (2, .int v2), (3, .int v3), (4, .int v4), (5, .int v5), (6, .int v6), (7, .int v7)] [] := by
  refine gx_iload C dM_pack_116 7 rfl ?_
  refine gx_iload C dM_pack_118 6 rfl ?_
  obtain ⟨ht, hf⟩ := hs
  refine gx_icmp_ge C dM_pack_120 148 rfl (fun hc => ?_) (fun hc => ?_)
  · have hs := ht hc
    refine gx_iload C dM_pack_148 5 rfl ?_
    refine gx_iload_n C dM_pack_150 2 rfl rfl ?_
    obtain ⟨ht, hf⟩ := hs
    refine gx_icmp_eq C dM_pack_151 160 rfl (fun hc => ?_) (fun hc => ?_)
    · have hs := ht hc
      refine gx_iload_n C dM_pack_160 1 rfl rfl ?_
      refine gx_istore_n (L' := [(1, .int v1), (0, .ref (o 0)), (2, .int v2), (3, .int v3), (4, .int v4), (5, .int v5), (6, .int v6), (7, .int v7)]) C dM_pack_161 rfl (by decide) rfl ?_
      refine gx_aload_n C dM_pack_162 1 rfl rfl ?_
      refine gx_get C mo_this hi_M 5 (by decide) fl_M_17 rfl dM_pack_163 ?_
      refine gx_iload C dM_pack_166 4 rfl ?_
      refine gx_iload_n C dM_pack_168 2 rfl rfl ?_
      obtain ⟨hin, hs⟩ := hs
      refine gx_iast C ma_addresses hin dM_pack_169 (fun S1 eS1 => ?_)
      replace hs := hs S1 eS1
      refine gx_iload_n C dM_pack_170 2 rfl rfl ?_
      refine gx_iload C dM_pack_171 6 rfl ?_
      refine gx_iadd C dM_pack_173 ?_
      refine gx_top (fun y2 ey2 => ?_)
      replace hs := hs y2 ey2
      refine gx_istore_n (L' := [(2, .int y2), (1, .int v1), (0, .ref (o 0)), (3, .int v3), (4, .int v4), (5, .int v5), (6, .int v6), (7, .int v7)]) C dM_pack_174 rfl (by decide) rfl ?_
      refine gx_goto C dM_pack_175 6 rfl ?_
      exact gx_sub [2, 1, 0, 3] rfl hs
    · have hs := hf hc
      refine gx_iload_n C dM_pack_154 1 rfl rfl ?_
      refine gx_iconst (v := 1) C dM_pack_155 (by decide) ?_
      refine gx_iadd C dM_pack_156 ?_
      refine gx_goto C dM_pack_157 161 rfl ?_
      refine gx_top (fun y3 ey3 => ?_)
      replace hs := hs y3 ey3
      refine gx_istore_n (L' := [(1, .int y3), (0, .ref (o 0)), (2, .int v2), (3, .int v3), (4, .int v4), (5, .int v5), (6, .int v6), (7, .int v7)]) C dM_pack_161 rfl (by decide) rfl ?_
      refine gx_aload_n C dM_pack_162 1 rfl rfl ?_
      refine gx_get C mo_this hi_M 5 (by decide) fl_M_17 rfl dM_pack_163 ?_
      refine gx_iload C dM_pack_166 4 rfl ?_
      refine gx_iload_n C dM_pack_168 2 rfl rfl ?_
      obtain ⟨hin, hs⟩ := hs
      refine gx_iast C ma_addresses hin dM_pack_169 (fun S4 eS4 => ?_)
      replace hs := hs S4 eS4
      refine gx_iload_n C dM_pack_170 2 rfl rfl ?_
      refine gx_iload C dM_pack_171 6 rfl ?_
      refine gx_iadd C dM_pack_173 ?_
      refine gx_top (fun y5 ey5 => ?_)
      replace hs := hs y5 ey5
      refine gx_istore_n (L' := [(2, .int y5), (1, .int y3), (0, .ref (o 0)), (3, .int v3), (4, .int v4), (5, .int v5), (6, .int v6), (7, .int v7)]) C dM_pack_174 rfl (by decide) rfl ?_
      refine gx_goto C dM_pack_175 6 rfl ?_
      exact gx_sub [2, 1, 0, 3] rfl hs
  · have hs := hf hc
    refine gx_aload_n C dM_pack_123 0 rfl rfl ?_
    refine gx_get C mo_this hi_M 8 (by decide) fl_M_26 rfl dM_pack_124 ?_
    refine gx_iload_n C dM_pack_127 2 rfl rfl ?_
    refine gx_iload C dM_pack_128 7 rfl ?_
    refine gx_iadd C dM_pack_130 ?_
    refine gx_aload_n C dM_pack_131 0 rfl rfl ?_
    refine gx_get C mo_this hi_M 8 (by decide) fl_M_26 rfl dM_pack_132 ?_
    refine gx_iload C dM_pack_135 5 rfl ?_
    refine gx_iload C dM_pack_137 7 rfl ?_
    refine gx_iadd C dM_pack_139 ?_
    obtain ⟨hin, hs⟩ := hs
    refine gx_iald C ma_word hin dM_pack_140 ?_
    obtain ⟨hin, hs⟩ := hs
    refine gx_iast C ma_word hin dM_pack_141 (fun S6 eS6 => ?_)
    replace hs := hs S6 eS6
    refine gx_iinc (v0 := 1) (f := fun v => [(7, .int v), (0, .ref (o 0)), (1, .int v1), (2, .int v2), (3, .int v3), (4, .int v4), (5, .int v5), (6, .int v6)]) C dM_pack_142 7 rfl (by decide) (by decide) (fun _ => rfl) (fun y7 ey7 => ?_)
    replace hs := hs y7 ey7
    refine gx_goto C dM_pack_145 116 rfl ?_
    exact gx_sub [1, 2, 3, 4, 5, 6, 7, 0] rfl hs
set_option maxHeartbeats 4000000 in
set_option maxRecDepth 100000 in
theorem mt_M_pack (l : Launch) (dC : Nat → ClassId) (dI : Nat → Nat → Nat) (cI cZ : ClassId) (o : Nat → Nat) (S : GS) (post : Int32 → GS → Prop) (h : wp_M_pack [] S post) : MetI l yM_pack (Cond.code yM_pack cM_pack 8 (some .int) :: wsA) ({ frames := 1, cells := 0, slots := 0, locals := 22 }) (dC, dI) gx_cl [(cI, .int), (cZ, .boolean)] (mw cI cZ o) [.ref (o 0)] S post := by
  refine gx_metI (by decide) wsA_good (Nat.le_of_ble_eq_true rfl) ?_
  intro p e s m args below meth c A C hr hlocks
  refine h (vh_M_pack o (GV p l e ({ frames := 1, cells := 0, slots := 0, locals := 22 }) s m args below meth c (MQ below (va_Qi post (GB (mw cI cZ o) (dC, dI) gx_cl [(cI, .int), (cZ, .boolean)] A) A) args s 0 0 A) 8 (dC, dI) gx_cl A (mw cI cZ o))) (fun h S xs hs => ?_)
  unfold sp_M_pack at hs
  split at hs
  · exact wk_M_pack_0 C hr hlocks _ hs
  · exact wk_M_pack_6 C hr hlocks _ _ _ _ hs
  · exact wk_M_pack_16 C hr hlocks _ _ _ _ _ _ hs
  · exact wk_M_pack_116 C hr hlocks _ _ _ _ _ _ _ _ hs
  · exact hs.elim
/-- CountedObjectsModel.place(I)I: a step from head to head -/
def sp_M_place (post : Int32 → GS → Prop) (V : Nat → GS → List Int32 → Prop) (h : Nat) (S : GS) (xs : List Int32) : Prop := match h, xs with
  | 0, [v1] => wp_M_fitting  [v1] S (fun r2 S1 => ((0 ≤ r2 → ((0 ≤ r2 → (vp_in r2 400 ∧ ∀ y3 : Int32, y3 = S1 6 (r2).toNatClampNeg → (vp_in r2 400 ∧ ∀ y4 : Int32, y4 = (S1 7 (r2).toNatClampNeg) - v1 → (∀ S5 : GS, S5 = gx_set 100 3 ((S1 100 3) - 1) S1 → (vp_in (S5 100 3) 400 ∧ (vp_in r2 400 ∧ ∀ S6 : GS, S6 = gx_set 6 (r2).toNatClampNeg (S5 6 (S5 100 3).toNatClampNeg) S5 → (vp_in (S6 100 3) 400 ∧ (vp_in r2 400 ∧ ∀ S7 : GS, S7 = gx_set 7 (r2).toNatClampNeg (S6 7 (S6 100 3).toNatClampNeg) S6 → (vp_in (S7 100 3) 400 ∧ (vp_in r2 400 ∧ ∀ S8 : GS, S8 = gx_set 8 (r2).toNatClampNeg (S7 8 (S7 100 3).toNatClampNeg) S7 → ((y4 ≤ 0 → post y3 S8) ∧ (¬ y4 ≤ 0 → wp_M_give  [y3 + v1, y4] S8 (fun S9 => post y3 S9))))))))))))) ∧ (¬ 0 ≤ r2 → post (-1) S1))) ∧ (¬ 0 ≤ r2 → wp_M_freeWords  [] S1 (fun r12 S11 => ((r12 < v1 → ((0 ≤ r2 → (vp_in r2 400 ∧ ∀ y13 : Int32, y13 = S11 6 (r2).toNatClampNeg → (vp_in r2 400 ∧ ∀ y14 : Int32, y14 = (S11 7 (r2).toNatClampNeg) - v1 → (∀ S15 : GS, S15 = gx_set 100 3 ((S11 100 3) - 1) S11 → (vp_in (S15 100 3) 400 ∧ (vp_in r2 400 ∧ ∀ S16 : GS, S16 = gx_set 6 (r2).toNatClampNeg (S15 6 (S15 100 3).toNatClampNeg) S15 → (vp_in (S16 100 3) 400 ∧ (vp_in r2 400 ∧ ∀ S17 : GS, S17 = gx_set 7 (r2).toNatClampNeg (S16 7 (S16 100 3).toNatClampNeg) S16 → (vp_in (S17 100 3) 400 ∧ (vp_in r2 400 ∧ ∀ S18 : GS, S18 = gx_set 8 (r2).toNatClampNeg (S17 8 (S17 100 3).toNatClampNeg) S17 → ((y14 ≤ 0 → post y13 S18) ∧ (¬ y14 ≤ 0 → wp_M_give  [y13 + v1, y14] S18 (fun S19 => post y13 S19))))))))))))) ∧ (¬ 0 ≤ r2 → post (-1) S11))) ∧ (¬ r12 < v1 → wp_M_pack  [] S11 (fun r22 S21 => wp_M_fitting  [v1] S21 (fun r24 S23 => ((0 ≤ r24 → (vp_in r24 400 ∧ ∀ y25 : Int32, y25 = S23 6 (r24).toNatClampNeg → (vp_in r24 400 ∧ ∀ y26 : Int32, y26 = (S23 7 (r24).toNatClampNeg) - v1 → (∀ S27 : GS, S27 = gx_set 100 3 ((S23 100 3) - 1) S23 → (vp_in (S27 100 3) 400 ∧ (vp_in r24 400 ∧ ∀ S28 : GS, S28 = gx_set 6 (r24).toNatClampNeg (S27 6 (S27 100 3).toNatClampNeg) S27 → (vp_in (S28 100 3) 400 ∧ (vp_in r24 400 ∧ ∀ S29 : GS, S29 = gx_set 7 (r24).toNatClampNeg (S28 7 (S28 100 3).toNatClampNeg) S28 → (vp_in (S29 100 3) 400 ∧ (vp_in r24 400 ∧ ∀ S30 : GS, S30 = gx_set 8 (r24).toNatClampNeg (S29 8 (S29 100 3).toNatClampNeg) S29 → ((y26 ≤ 0 → post y25 S30) ∧ (¬ y26 ≤ 0 → wp_M_give  [y25 + v1, y26] S30 (fun S31 => post y25 S31))))))))))))) ∧ (¬ 0 ≤ r24 → post (-1) S23))))))))))
  | _, _ => False
def wp_M_place (xs : List Int32) (S : GS) (post : Int32 → GS → Prop) : Prop := ∀ V : Nat → GS → List Int32 → Prop, (∀ h S xs, sp_M_place post V h S xs → V h S xs) → V 0 S xs
def vh_M_place (o : Nat → Nat) (G : GS → Nat → List (Nat × Value) → List Value → Prop) (h : Nat) (S : GS) (xs : List Int32) : Prop := match h, xs with
  | 0, [v1] => G S 0 [(0, .ref (o 0)), (1, .int v1)] []
  | _, _ => True
set_option maxHeartbeats 4000000 in
set_option maxRecDepth 100000 in
theorem wk_M_place_0 {l : Launch} {dC : Nat → ClassId} {dI : Nat → Nat → Nat} {cI cZ : ClassId} {o : Nat → Nat}  {p : Program} {e : Env} {s : State} {m : MethodId} {args : Array Value} {below : List Frame} {meth : Method} {c : Code} {A : Nat → Prop} {post : Int32 → GS → Prop} (C : GC p s m args c cM_place 5 RM wsA (dC, dI) gx_cl [(cI, .int), (cZ, .boolean)] A) (hr : meth.sig.returnType = (some .int)) (hlocks : meth.locks = false) (S : GS) (v1 : Int32) (hs : sp_M_place post (vh_M_place o (GV p l e ({ frames := 2, cells := 0, slots := 0, locals := 49 }) s m args below meth c (MQ below (va_Qi post (GB (mw cI cZ o) (dC, dI) gx_cl [(cI, .int), (cZ, .boolean)] A) A) args s 0 0 A) 5 (dC, dI) gx_cl A (mw cI cZ o))) 0 S [v1]) : GV p l e ({ frames := 2, cells := 0, slots := 0, locals := 49 }) s m args below meth c (MQ below (va_Qi post (GB (mw cI cZ o) (dC, dI) gx_cl [(cI, .int), (cZ, .boolean)] A) A) args s 0 0 A) 5 (dC, dI) gx_cl A (mw cI cZ o) S 0 [(0, .ref (o 0)), (1, .int v1)] [] := by
  refine gx_aload_n C dM_place_0 0 rfl rfl ?_
  refine gx_iload_n C dM_place_1 1 rfl rfl ?_
  refine gx_calli (As := [.int v1]) (rest := []) C (mt_M_fitting l dC dI cI cZ o  _ _ _ hs) (gx_cwV C 1 ln_M_74 im_M_fitting se_M_fitting in_CountedObjectsModel cd_M_fitting rfl rfl (by decide +kernel) ⟨Nat.le_of_ble_eq_true rfl, Nat.le_of_ble_eq_true rfl⟩) mo_this rfl (Nat.le_of_ble_eq_true rfl) dM_place_2 (fun S1 => mw_ad _ S1) rfl (fun r2 S1 hs => ?_)
  refine gx_istore_n (L' := [(2, .int r2), (0, .ref (o 0)), (1, .int v1)]) C dM_place_5 rfl (by decide) rfl ?_
  refine gx_iload_n C dM_place_6 0 rfl rfl ?_
  obtain ⟨ht, hf⟩ := hs
  refine gx_if_ge C dM_place_7 29 rfl (fun hc => ?_) (fun hc => ?_)
  · have hs := ht hc
    refine gx_iload_n C dM_place_29 0 rfl rfl ?_
    obtain ⟨ht, hf⟩ := hs
    refine gx_if_ge C dM_place_30 35 rfl (fun hc => ?_) (fun hc => ?_)
    · have hs := ht hc
      refine gx_aload_n C dM_place_35 1 rfl rfl ?_
      refine gx_get C mo_this hi_M 10 (by decide) fl_M_29 rfl dM_place_36 ?_
      refine gx_iload_n C dM_place_39 0 rfl rfl ?_
      obtain ⟨hin, hs⟩ := hs
      refine gx_iald C ma_begins hin dM_place_40 ?_
      refine gx_top (fun y3 ey3 => ?_)
      replace hs := hs y3 ey3
      refine gx_istore_n (L' := [(3, .int y3), (2, .int r2), (0, .ref (o 0)), (1, .int v1)]) C dM_place_41 rfl (by decide) rfl ?_
      refine gx_aload_n C dM_place_42 2 rfl rfl ?_
      refine gx_get C mo_this hi_M 11 (by decide) fl_M_32 rfl dM_place_43 ?_
      refine gx_iload_n C dM_place_46 1 rfl rfl ?_
      obtain ⟨hin, hs⟩ := hs
      refine gx_iald C ma_lengths hin dM_place_47 ?_
      refine gx_iload_n C dM_place_48 3 rfl rfl ?_
      refine gx_isub C dM_place_49 ?_
      refine gx_top (fun y4 ey4 => ?_)
      replace hs := hs y4 ey4
      refine gx_istore (L' := [(4, .int y4), (3, .int y3), (2, .int r2), (0, .ref (o 0)), (1, .int v1)]) C dM_place_50 (by decide) rfl ?_
      refine gx_aload_n C dM_place_52 3 rfl rfl ?_
      refine gx_dup C dM_place_53 rfl ?_
      refine gx_get C mo_this hi_M 9 (by decide) fl_M_68 rfl dM_place_54 ?_
      refine gx_iconst (v := 1) C dM_place_57 (by decide) ?_
      refine gx_isub C dM_place_58 ?_
      refine gx_put C mo_this hi_M tyM tyM_ok nmM 9 (by decide) fl_M_68 rfl (by decide +kernel) (Nat.le_of_ble_eq_true rfl) (mp_frees _ _) dM_place_59 (fun S5 eS5 => ?_)
      replace hs := hs S5 eS5
      refine gx_aload_n C dM_place_62 3 rfl rfl ?_
      refine gx_get C mo_this hi_M 10 (by decide) fl_M_29 rfl dM_place_63 ?_
      refine gx_iload_n C dM_place_66 2 rfl rfl ?_
      refine gx_aload_n C dM_place_67 3 rfl rfl ?_
      refine gx_get C mo_this hi_M 10 (by decide) fl_M_29 rfl dM_place_68 ?_
      refine gx_aload_n C dM_place_71 3 rfl rfl ?_
      refine gx_get C mo_this hi_M 9 (by decide) fl_M_68 rfl dM_place_72 ?_
      obtain ⟨hin, hs⟩ := hs
      refine gx_iald C ma_begins hin dM_place_75 ?_
      obtain ⟨hin, hs⟩ := hs
      refine gx_iast C ma_begins hin dM_place_76 (fun S6 eS6 => ?_)
      replace hs := hs S6 eS6
      refine gx_aload_n C dM_place_77 3 rfl rfl ?_
      refine gx_get C mo_this hi_M 11 (by decide) fl_M_32 rfl dM_place_78 ?_
      refine gx_iload_n C dM_place_81 2 rfl rfl ?_
      refine gx_aload_n C dM_place_82 3 rfl rfl ?_
      refine gx_get C mo_this hi_M 11 (by decide) fl_M_32 rfl dM_place_83 ?_
      refine gx_aload_n C dM_place_86 3 rfl rfl ?_
      refine gx_get C mo_this hi_M 9 (by decide) fl_M_68 rfl dM_place_87 ?_
      obtain ⟨hin, hs⟩ := hs
      refine gx_iald C ma_lengths hin dM_place_90 ?_
      obtain ⟨hin, hs⟩ := hs
      refine gx_iast C ma_lengths hin dM_place_91 (fun S7 eS7 => ?_)
      replace hs := hs S7 eS7
      refine gx_aload_n C dM_place_92 3 rfl rfl ?_
      refine gx_get C mo_this hi_M 12 (by decide) fl_M_35 rfl dM_place_93 ?_
      refine gx_iload_n C dM_place_96 2 rfl rfl ?_
      refine gx_aload_n C dM_place_97 3 rfl rfl ?_
      refine gx_get C mo_this hi_M 12 (by decide) fl_M_35 rfl dM_place_98 ?_
      refine gx_aload_n C dM_place_101 3 rfl rfl ?_
      refine gx_get C mo_this hi_M 9 (by decide) fl_M_68 rfl dM_place_102 ?_
      obtain ⟨hin, hs⟩ := hs
      refine gx_iald C ma_came hin dM_place_105 ?_
      obtain ⟨hin, hs⟩ := hs
      refine gx_iast C ma_came hin dM_place_106 (fun S8 eS8 => ?_)
      replace hs := hs S8 eS8
      refine gx_iload C dM_place_107 0 rfl ?_
      obtain ⟨ht, hf⟩ := hs
      refine gx_if_le C dM_place_109 121 rfl (fun hc => ?_) (fun hc => ?_)
      · have hs := ht hc
        refine gx_iload_n C dM_place_121 1 rfl rfl ?_
        exact gx_iret C hr hlocks dM_place_122 hs
      · have hs := hf hc
        refine gx_aload_n C dM_place_112 3 rfl rfl ?_
        refine gx_iload_n C dM_place_113 1 rfl rfl ?_
        refine gx_iload_n C dM_place_114 4 rfl rfl ?_
        refine gx_iadd C dM_place_115 ?_
        refine gx_iload C dM_place_116 0 rfl ?_
        refine gx_callv (As := [.int (y3 + v1), .int y4]) (rest := []) C (mt_M_give l dC dI cI cZ o  _ _ _ _ hs) (gx_cwV C 2 ln_M_54 im_M_give se_M_give in_CountedObjectsModel cd_M_give rfl rfl (by decide +kernel) ⟨Nat.le_of_ble_eq_true rfl, Nat.le_of_ble_eq_true rfl⟩) mo_this rfl (Nat.le_of_ble_eq_true rfl) dM_place_118 (fun S1 => mw_ad _ S1) rfl (fun S9 hs => ?_)
        refine gx_iload_n C dM_place_121 1 rfl rfl ?_
        exact gx_iret C hr hlocks dM_place_122 hs
    · have hs := hf hc
      refine gx_iconst (v := (-1)) C dM_place_33 (by decide) ?_
      exact gx_iret C hr hlocks dM_place_34 hs
  · have hs := hf hc
    refine gx_aload_n C dM_place_10 1 rfl rfl ?_
    refine gx_calli (As := []) (rest := []) C (mt_M_freeWords l dC dI cI cZ o  _ _ hs) (gx_cwV C 0 ln_M_78 im_M_freeWords se_M_freeWords in_CountedObjectsModel cd_M_freeWords rfl rfl (by decide +kernel) ⟨Nat.le_of_ble_eq_true rfl, Nat.le_of_ble_eq_true rfl⟩) mo_this rfl (Nat.le_of_ble_eq_true rfl) dM_place_11 (fun S1 => mw_ad _ S1) rfl (fun r12 S11 hs => ?_)
    refine gx_iload_n C dM_place_14 2 rfl rfl ?_
    obtain ⟨ht, hf⟩ := hs
    refine gx_icmp_lt C dM_place_15 29 rfl (fun hc => ?_) (fun hc => ?_)
    · have hs := ht hc
      refine gx_iload_n C dM_place_29 0 rfl rfl ?_
      obtain ⟨ht, hf⟩ := hs
      refine gx_if_ge C dM_place_30 35 rfl (fun hc => ?_) (fun hc => ?_)
      · have hs := ht hc
        refine gx_aload_n C dM_place_35 1 rfl rfl ?_
        refine gx_get C mo_this hi_M 10 (by decide) fl_M_29 rfl dM_place_36 ?_
        refine gx_iload_n C dM_place_39 0 rfl rfl ?_
        obtain ⟨hin, hs⟩ := hs
        refine gx_iald C ma_begins hin dM_place_40 ?_
        refine gx_top (fun y13 ey13 => ?_)
        replace hs := hs y13 ey13
        refine gx_istore_n (L' := [(3, .int y13), (2, .int r2), (0, .ref (o 0)), (1, .int v1)]) C dM_place_41 rfl (by decide) rfl ?_
        refine gx_aload_n C dM_place_42 2 rfl rfl ?_
        refine gx_get C mo_this hi_M 11 (by decide) fl_M_32 rfl dM_place_43 ?_
        refine gx_iload_n C dM_place_46 1 rfl rfl ?_
        obtain ⟨hin, hs⟩ := hs
        refine gx_iald C ma_lengths hin dM_place_47 ?_
        refine gx_iload_n C dM_place_48 3 rfl rfl ?_
        refine gx_isub C dM_place_49 ?_
        refine gx_top (fun y14 ey14 => ?_)
        replace hs := hs y14 ey14
        refine gx_istore (L' := [(4, .int y14), (3, .int y13), (2, .int r2), (0, .ref (o 0)), (1, .int v1)]) C dM_place_50 (by decide) rfl ?_
        refine gx_aload_n C dM_place_52 3 rfl rfl ?_
        refine gx_dup C dM_place_53 rfl ?_
        refine gx_get C mo_this hi_M 9 (by decide) fl_M_68 rfl dM_place_54 ?_
        refine gx_iconst (v := 1) C dM_place_57 (by decide) ?_
        refine gx_isub C dM_place_58 ?_
        refine gx_put C mo_this hi_M tyM tyM_ok nmM 9 (by decide) fl_M_68 rfl (by decide +kernel) (Nat.le_of_ble_eq_true rfl) (mp_frees _ _) dM_place_59 (fun S15 eS15 => ?_)
        replace hs := hs S15 eS15
        refine gx_aload_n C dM_place_62 3 rfl rfl ?_
        refine gx_get C mo_this hi_M 10 (by decide) fl_M_29 rfl dM_place_63 ?_
        refine gx_iload_n C dM_place_66 2 rfl rfl ?_
        refine gx_aload_n C dM_place_67 3 rfl rfl ?_
        refine gx_get C mo_this hi_M 10 (by decide) fl_M_29 rfl dM_place_68 ?_
        refine gx_aload_n C dM_place_71 3 rfl rfl ?_
        refine gx_get C mo_this hi_M 9 (by decide) fl_M_68 rfl dM_place_72 ?_
        obtain ⟨hin, hs⟩ := hs
        refine gx_iald C ma_begins hin dM_place_75 ?_
        obtain ⟨hin, hs⟩ := hs
        refine gx_iast C ma_begins hin dM_place_76 (fun S16 eS16 => ?_)
        replace hs := hs S16 eS16
        refine gx_aload_n C dM_place_77 3 rfl rfl ?_
        refine gx_get C mo_this hi_M 11 (by decide) fl_M_32 rfl dM_place_78 ?_
        refine gx_iload_n C dM_place_81 2 rfl rfl ?_
        refine gx_aload_n C dM_place_82 3 rfl rfl ?_
        refine gx_get C mo_this hi_M 11 (by decide) fl_M_32 rfl dM_place_83 ?_
        refine gx_aload_n C dM_place_86 3 rfl rfl ?_
        refine gx_get C mo_this hi_M 9 (by decide) fl_M_68 rfl dM_place_87 ?_
        obtain ⟨hin, hs⟩ := hs
        refine gx_iald C ma_lengths hin dM_place_90 ?_
        obtain ⟨hin, hs⟩ := hs
        refine gx_iast C ma_lengths hin dM_place_91 (fun S17 eS17 => ?_)
        replace hs := hs S17 eS17
        refine gx_aload_n C dM_place_92 3 rfl rfl ?_
        refine gx_get C mo_this hi_M 12 (by decide) fl_M_35 rfl dM_place_93 ?_
        refine gx_iload_n C dM_place_96 2 rfl rfl ?_
        refine gx_aload_n C dM_place_97 3 rfl rfl ?_
        refine gx_get C mo_this hi_M 12 (by decide) fl_M_35 rfl dM_place_98 ?_
        refine gx_aload_n C dM_place_101 3 rfl rfl ?_
        refine gx_get C mo_this hi_M 9 (by decide) fl_M_68 rfl dM_place_102 ?_
        obtain ⟨hin, hs⟩ := hs
        refine gx_iald C ma_came hin dM_place_105 ?_
        obtain ⟨hin, hs⟩ := hs
        refine gx_iast C ma_came hin dM_place_106 (fun S18 eS18 => ?_)
        replace hs := hs S18 eS18
        refine gx_iload C dM_place_107 0 rfl ?_
        obtain ⟨ht, hf⟩ := hs
        refine gx_if_le C dM_place_109 121 rfl (fun hc => ?_) (fun hc => ?_)
        · have hs := ht hc
          refine gx_iload_n C dM_place_121 1 rfl rfl ?_
          exact gx_iret C hr hlocks dM_place_122 hs
        · have hs := hf hc
          refine gx_aload_n C dM_place_112 3 rfl rfl ?_
          refine gx_iload_n C dM_place_113 1 rfl rfl ?_
          refine gx_iload_n C dM_place_114 4 rfl rfl ?_
          refine gx_iadd C dM_place_115 ?_
          refine gx_iload C dM_place_116 0 rfl ?_
          refine gx_callv (As := [.int (y13 + v1), .int y14]) (rest := []) C (mt_M_give l dC dI cI cZ o  _ _ _ _ hs) (gx_cwV C 2 ln_M_54 im_M_give se_M_give in_CountedObjectsModel cd_M_give rfl rfl (by decide +kernel) ⟨Nat.le_of_ble_eq_true rfl, Nat.le_of_ble_eq_true rfl⟩) mo_this rfl (Nat.le_of_ble_eq_true rfl) dM_place_118 (fun S1 => mw_ad _ S1) rfl (fun S19 hs => ?_)
          refine gx_iload_n C dM_place_121 1 rfl rfl ?_
          exact gx_iret C hr hlocks dM_place_122 hs
      · have hs := hf hc
        refine gx_iconst (v := (-1)) C dM_place_33 (by decide) ?_
        exact gx_iret C hr hlocks dM_place_34 hs
    · have hs := hf hc
      refine gx_aload_n C dM_place_18 1 rfl rfl ?_
      refine gx_calli (As := []) (rest := []) C (mt_M_pack l dC dI cI cZ o  _ _ hs) (gx_cwV C 0 ln_M_82 im_M_pack se_M_pack in_CountedObjectsModel cd_M_pack rfl rfl (by decide +kernel) ⟨Nat.le_of_ble_eq_true rfl, Nat.le_of_ble_eq_true rfl⟩) mo_this rfl (Nat.le_of_ble_eq_true rfl) dM_place_19 (fun S1 => mw_ad _ S1) rfl (fun r22 S21 hs => ?_)
      refine gx_istore_n (L' := [(3, .int r22), (2, .int r2), (0, .ref (o 0)), (1, .int v1)]) C dM_place_22 rfl (by decide) rfl ?_
      refine gx_aload_n C dM_place_23 2 rfl rfl ?_
      refine gx_iload_n C dM_place_24 3 rfl rfl ?_
      refine gx_calli (As := [.int v1]) (rest := []) C (mt_M_fitting l dC dI cI cZ o  _ _ _ hs) (gx_cwV C 1 ln_M_74 im_M_fitting se_M_fitting in_CountedObjectsModel cd_M_fitting rfl rfl (by decide +kernel) ⟨Nat.le_of_ble_eq_true rfl, Nat.le_of_ble_eq_true rfl⟩) mo_this rfl (Nat.le_of_ble_eq_true rfl) dM_place_25 (fun S1 => mw_ad _ S1) rfl (fun r24 S23 hs => ?_)
      refine gx_istore_n (L' := [(2, .int r24), (3, .int r22), (0, .ref (o 0)), (1, .int v1)]) C dM_place_28 rfl (by decide) rfl ?_
      refine gx_iload_n C dM_place_29 0 rfl rfl ?_
      obtain ⟨ht, hf⟩ := hs
      refine gx_if_ge C dM_place_30 35 rfl (fun hc => ?_) (fun hc => ?_)
      · have hs := ht hc
        refine gx_aload_n C dM_place_35 2 rfl rfl ?_
        refine gx_get C mo_this hi_M 10 (by decide) fl_M_29 rfl dM_place_36 ?_
        refine gx_iload_n C dM_place_39 0 rfl rfl ?_
        obtain ⟨hin, hs⟩ := hs
        refine gx_iald C ma_begins hin dM_place_40 ?_
        refine gx_top (fun y25 ey25 => ?_)
        replace hs := hs y25 ey25
        refine gx_istore_n (L' := [(3, .int y25), (2, .int r24), (0, .ref (o 0)), (1, .int v1)]) C dM_place_41 rfl (by decide) rfl ?_
        refine gx_aload_n C dM_place_42 2 rfl rfl ?_
        refine gx_get C mo_this hi_M 11 (by decide) fl_M_32 rfl dM_place_43 ?_
        refine gx_iload_n C dM_place_46 1 rfl rfl ?_
        obtain ⟨hin, hs⟩ := hs
        refine gx_iald C ma_lengths hin dM_place_47 ?_
        refine gx_iload_n C dM_place_48 3 rfl rfl ?_
        refine gx_isub C dM_place_49 ?_
        refine gx_top (fun y26 ey26 => ?_)
        replace hs := hs y26 ey26
        refine gx_istore (L' := [(4, .int y26), (3, .int y25), (2, .int r24), (0, .ref (o 0)), (1, .int v1)]) C dM_place_50 (by decide) rfl ?_
        refine gx_aload_n C dM_place_52 3 rfl rfl ?_
        refine gx_dup C dM_place_53 rfl ?_
        refine gx_get C mo_this hi_M 9 (by decide) fl_M_68 rfl dM_place_54 ?_
        refine gx_iconst (v := 1) C dM_place_57 (by decide) ?_
        refine gx_isub C dM_place_58 ?_
        refine gx_put C mo_this hi_M tyM tyM_ok nmM 9 (by decide) fl_M_68 rfl (by decide +kernel) (Nat.le_of_ble_eq_true rfl) (mp_frees _ _) dM_place_59 (fun S27 eS27 => ?_)
        replace hs := hs S27 eS27
        refine gx_aload_n C dM_place_62 3 rfl rfl ?_
        refine gx_get C mo_this hi_M 10 (by decide) fl_M_29 rfl dM_place_63 ?_
        refine gx_iload_n C dM_place_66 2 rfl rfl ?_
        refine gx_aload_n C dM_place_67 3 rfl rfl ?_
        refine gx_get C mo_this hi_M 10 (by decide) fl_M_29 rfl dM_place_68 ?_
        refine gx_aload_n C dM_place_71 3 rfl rfl ?_
        refine gx_get C mo_this hi_M 9 (by decide) fl_M_68 rfl dM_place_72 ?_
        obtain ⟨hin, hs⟩ := hs
        refine gx_iald C ma_begins hin dM_place_75 ?_
        obtain ⟨hin, hs⟩ := hs
        refine gx_iast C ma_begins hin dM_place_76 (fun S28 eS28 => ?_)
        replace hs := hs S28 eS28
        refine gx_aload_n C dM_place_77 3 rfl rfl ?_
        refine gx_get C mo_this hi_M 11 (by decide) fl_M_32 rfl dM_place_78 ?_
        refine gx_iload_n C dM_place_81 2 rfl rfl ?_
        refine gx_aload_n C dM_place_82 3 rfl rfl ?_
        refine gx_get C mo_this hi_M 11 (by decide) fl_M_32 rfl dM_place_83 ?_
        refine gx_aload_n C dM_place_86 3 rfl rfl ?_
        refine gx_get C mo_this hi_M 9 (by decide) fl_M_68 rfl dM_place_87 ?_
        obtain ⟨hin, hs⟩ := hs
        refine gx_iald C ma_lengths hin dM_place_90 ?_
        obtain ⟨hin, hs⟩ := hs
        refine gx_iast C ma_lengths hin dM_place_91 (fun S29 eS29 => ?_)
        replace hs := hs S29 eS29
        refine gx_aload_n C dM_place_92 3 rfl rfl ?_
        refine gx_get C mo_this hi_M 12 (by decide) fl_M_35 rfl dM_place_93 ?_
        refine gx_iload_n C dM_place_96 2 rfl rfl ?_
        refine gx_aload_n C dM_place_97 3 rfl rfl ?_
        refine gx_get C mo_this hi_M 12 (by decide) fl_M_35 rfl dM_place_98 ?_
        refine gx_aload_n C dM_place_101 3 rfl rfl ?_
        refine gx_get C mo_this hi_M 9 (by decide) fl_M_68 rfl dM_place_102 ?_
        obtain ⟨hin, hs⟩ := hs
        refine gx_iald C ma_came hin dM_place_105 ?_
        obtain ⟨hin, hs⟩ := hs
        refine gx_iast C ma_came hin dM_place_106 (fun S30 eS30 => ?_)
        replace hs := hs S30 eS30
        refine gx_iload C dM_place_107 0 rfl ?_
        obtain ⟨ht, hf⟩ := hs
        refine gx_if_le C dM_place_109 121 rfl (fun hc => ?_) (fun hc => ?_)
        · have hs := ht hc
          refine gx_iload_n C dM_place_121 1 rfl rfl ?_
          exact gx_iret C hr hlocks dM_place_122 hs
        · have hs := hf hc
          refine gx_aload_n C dM_place_112 3 rfl rfl ?_
          refine gx_iload_n C dM_place_113 1 rfl rfl ?_
          refine gx_iload_n C dM_place_114 4 rfl rfl ?_
          refine gx_iadd C dM_place_115 ?_
          refine gx_iload C dM_place_116 0 rfl ?_
          refine gx_callv (As := [.int (y25 + v1), .int y26]) (rest := []) C (mt_M_give l dC dI cI cZ o  _ _ _ _ hs) (gx_cwV C 2 ln_M_54 im_M_give se_M_give in_CountedObjectsModel cd_M_give rfl rfl (by decide +kernel) ⟨Nat.le_of_ble_eq_true rfl, Nat.le_of_ble_eq_true rfl⟩) mo_this rfl (Nat.le_of_ble_eq_true rfl) dM_place_118 (fun S1 => mw_ad _ S1) rfl (fun S31 hs => ?_)
          refine gx_iload_n C dM_place_121 1 rfl rfl ?_
          exact gx_iret C hr hlocks dM_place_122 hs
      · have hs := hf hc
        refine gx_iconst (v := (-1)) C dM_place_33 (by decide) ?_
        exact gx_iret C hr hlocks dM_place_34 hs
set_option maxHeartbeats 4000000 in
set_option maxRecDepth 100000 in
theorem mt_M_place (l : Launch) (dC : Nat → ClassId) (dI : Nat → Nat → Nat) (cI cZ : ClassId) (o : Nat → Nat) (v1 : Int32) (S : GS) (post : Int32 → GS → Prop) (h : wp_M_place [v1] S post) : MetI l yM_place (Cond.code yM_place cM_place 5 (some .int) :: wsA) ({ frames := 2, cells := 0, slots := 0, locals := 49 }) (dC, dI) gx_cl [(cI, .int), (cZ, .boolean)] (mw cI cZ o) [.ref (o 0), .int v1] S post := by
  refine gx_metI (by decide) wsA_good (Nat.le_of_ble_eq_true rfl) ?_
  intro p e s m args below meth c A C hr hlocks
  refine h (vh_M_place o (GV p l e ({ frames := 2, cells := 0, slots := 0, locals := 49 }) s m args below meth c (MQ below (va_Qi post (GB (mw cI cZ o) (dC, dI) gx_cl [(cI, .int), (cZ, .boolean)] A) A) args s 0 0 A) 5 (dC, dI) gx_cl A (mw cI cZ o))) (fun h S xs hs => ?_)
  unfold sp_M_place at hs
  split at hs
  · exact wk_M_place_0 C hr hlocks _ _ hs
  · exact hs.elim
/-- CountedObjectsModel.comes(I)V: a step from head to head -/
def sp_M_comes (post : GS → Prop) (V : Nat → GS → List Int32 → Prop) (h : Nat) (S : GS) (xs : List Int32) : Prop := match h, xs with
  | 0, [v1] => wp_M_leads  [v1] S (fun r2 S1 => ((r2 = 0 → post S1) ∧ (¬ r2 = 0 → (vp_in (v1 / 2) 41 ∧ ((7 ≤ (S1 4 (v1 / 2).toNatClampNeg) → post S1) ∧ (¬ 7 ≤ (S1 4 (v1 / 2).toNatClampNeg) → (vp_in (v1 / 2) 41 ∧ (vp_in (v1 / 2) 41 ∧ ∀ S3 : GS, S3 = gx_set 4 (v1 / 2).toNatClampNeg ((S1 4 (v1 / 2).toNatClampNeg) + 1) S1 → post S3))))))))
  | _, _ => False
def wp_M_comes (xs : List Int32) (S : GS) (post : GS → Prop) : Prop := ∀ V : Nat → GS → List Int32 → Prop, (∀ h S xs, sp_M_comes post V h S xs → V h S xs) → V 0 S xs
def vh_M_comes (o : Nat → Nat) (G : GS → Nat → List (Nat × Value) → List Value → Prop) (h : Nat) (S : GS) (xs : List Int32) : Prop := match h, xs with
  | 0, [v1] => G S 0 [(0, .ref (o 0)), (1, .int v1)] []
  | _, _ => True
set_option maxHeartbeats 4000000 in
set_option maxRecDepth 100000 in
theorem wk_M_comes_0 {l : Launch} {dC : Nat → ClassId} {dI : Nat → Nat → Nat} {cI cZ : ClassId} {o : Nat → Nat}  {p : Program} {e : Env} {s : State} {m : MethodId} {args : Array Value} {below : List Frame} {meth : Method} {c : Code} {A : Nat → Prop} {post : GS → Prop} (C : GC p s m args c cM_comes 2 RM wsA (dC, dI) gx_cl [(cI, .int), (cZ, .boolean)] A) (hr : meth.sig.returnType = none) (hlocks : meth.locks = false) (S : GS) (v1 : Int32) (hs : sp_M_comes post (vh_M_comes o (GV p l e ({ frames := 1, cells := 0, slots := 0, locals := 20 }) s m args below meth c (MQ below (va_Qv post (GB (mw cI cZ o) (dC, dI) gx_cl [(cI, .int), (cZ, .boolean)] A) A) args s 0 0 A) 2 (dC, dI) gx_cl A (mw cI cZ o))) 0 S [v1]) : GV p l e ({ frames := 1, cells := 0, slots := 0, locals := 20 }) s m args below meth c (MQ below (va_Qv post (GB (mw cI cZ o) (dC, dI) gx_cl [(cI, .int), (cZ, .boolean)] A) A) args s 0 0 A) 2 (dC, dI) gx_cl A (mw cI cZ o) S 0 [(0, .ref (o 0)), (1, .int v1)] [] := by
  refine gx_iload_n C dM_comes_0 1 rfl rfl ?_
  refine gx_calls (As := [.int v1]) (rest := []) C (mt_M_leads l dC dI cI cZ o  _ _ _ hs) (gx_cwS C 1 ln_M_61 sm_M_leads in_CountedObjectsModel cd_M_leads rfl rfl (by decide +kernel) ⟨Nat.le_of_ble_eq_true rfl, Nat.le_of_ble_eq_true rfl⟩) rfl (Nat.le_of_ble_eq_true rfl) dM_comes_1 (fun S1 => mw_ad _ S1) rfl (fun r2 S1 hs => ?_)
  obtain ⟨ht, hf⟩ := hs
  refine gx_if_eq C dM_comes_4 32 rfl (fun hc => ?_) (fun hc => ?_)
  · have hs := ht hc
    exact gx_vret C hr hlocks dM_comes_32 hs
  · have hs := hf hc
    refine gx_aload_n C dM_comes_7 0 rfl rfl ?_
    refine gx_get C mo_this hi_M 7 (by decide) fl_M_23 rfl dM_comes_8 ?_
    refine gx_iload_n C dM_comes_11 1 rfl rfl ?_
    refine gx_iconst (v := 2) C dM_comes_12 (by decide) ?_
    refine gx_idiv C dM_comes_13 (by decide) ?_
    obtain ⟨hin, hs⟩ := hs
    refine gx_iald C ma_counts hin dM_comes_14 ?_
    refine gx_bipush (v := 7) C dM_comes_15 (by decide) ?_
    obtain ⟨ht, hf⟩ := hs
    refine gx_icmp_ge C dM_comes_17 32 rfl (fun hc => ?_) (fun hc => ?_)
    · have hs := ht hc
      exact gx_vret C hr hlocks dM_comes_32 hs
    · have hs := hf hc
      refine gx_aload_n C dM_comes_20 0 rfl rfl ?_
      refine gx_get C mo_this hi_M 7 (by decide) fl_M_23 rfl dM_comes_21 ?_
      refine gx_iload_n C dM_comes_24 1 rfl rfl ?_
      refine gx_iconst (v := 2) C dM_comes_25 (by decide) ?_
      refine gx_idiv C dM_comes_26 (by decide) ?_
      refine gx_dup2 C dM_comes_27 rfl rfl ?_
      obtain ⟨hin, hs⟩ := hs
      refine gx_iald C ma_counts hin dM_comes_28 ?_
      refine gx_iconst (v := 1) C dM_comes_29 (by decide) ?_
      refine gx_iadd C dM_comes_30 ?_
      obtain ⟨hin, hs⟩ := hs
      refine gx_iast C ma_counts hin dM_comes_31 (fun S3 eS3 => ?_)
      replace hs := hs S3 eS3
      exact gx_vret C hr hlocks dM_comes_32 hs
set_option maxHeartbeats 4000000 in
set_option maxRecDepth 100000 in
theorem mt_M_comes (l : Launch) (dC : Nat → ClassId) (dI : Nat → Nat → Nat) (cI cZ : ClassId) (o : Nat → Nat) (v1 : Int32) (S : GS) (post : GS → Prop) (h : wp_M_comes [v1] S post) : MetV l yM_comes (Cond.code yM_comes cM_comes 2 none :: wsA) ({ frames := 1, cells := 0, slots := 0, locals := 20 }) (dC, dI) gx_cl [(cI, .int), (cZ, .boolean)] (mw cI cZ o) [.ref (o 0), .int v1] S post := by
  refine gx_metV (by decide) wsA_good (Nat.le_of_ble_eq_true rfl) ?_
  intro p e s m args below meth c A C hr hlocks
  refine h (vh_M_comes o (GV p l e ({ frames := 1, cells := 0, slots := 0, locals := 20 }) s m args below meth c (MQ below (va_Qv post (GB (mw cI cZ o) (dC, dI) gx_cl [(cI, .int), (cZ, .boolean)] A) A) args s 0 0 A) 2 (dC, dI) gx_cl A (mw cI cZ o))) (fun h S xs hs => ?_)
  unfold sp_M_comes at hs
  split at hs
  · exact wk_M_comes_0 C hr hlocks _ _ hs
  · exact hs.elim
/-- CountedObjectsModel.less(I)V: a step from head to head -/
def sp_M_less (post : GS → Prop) (V : Nat → GS → List Int32 → Prop) (h : Nat) (S : GS) (xs : List Int32) : Prop := match h, xs with
  | 0, [v1] => wp_M_leads  [v1] S (fun r2 S1 => ((r2 = 0 → post S1) ∧ (¬ r2 = 0 → (vp_in (v1 / 2) 41 ∧ ((7 ≤ (S1 4 (v1 / 2).toNatClampNeg) → post S1) ∧ (¬ 7 ≤ (S1 4 (v1 / 2).toNatClampNeg) → (vp_in (v1 / 2) 41 ∧ (vp_in (v1 / 2) 41 ∧ ∀ S3 : GS, S3 = gx_set 4 (v1 / 2).toNatClampNeg ((S1 4 (v1 / 2).toNatClampNeg) - 1) S1 → (vp_in (v1 / 2) 41 ∧ ((¬ (S3 4 (v1 / 2).toNatClampNeg) = 0 → post S3) ∧ ((S3 4 (v1 / 2).toNatClampNeg) = 0 → (vp_in (S3 100 5) 41 ∧ ∀ S4 : GS, S4 = gx_set 9 (S3 100 5).toNatClampNeg (v1 / 2) S3 → (vp_in (S4 100 5) 41 ∧ ∀ S5 : GS, S5 = gx_set 10 (S4 100 5).toNatClampNeg 0 S4 → (∀ S6 : GS, S6 = gx_set 100 5 ((S5 100 5) + 1) S5 → post S6))))))))))))))
  | _, _ => False
def wp_M_less (xs : List Int32) (S : GS) (post : GS → Prop) : Prop := ∀ V : Nat → GS → List Int32 → Prop, (∀ h S xs, sp_M_less post V h S xs → V h S xs) → V 0 S xs
def vh_M_less (o : Nat → Nat) (G : GS → Nat → List (Nat × Value) → List Value → Prop) (h : Nat) (S : GS) (xs : List Int32) : Prop := match h, xs with
  | 0, [v1] => G S 0 [(0, .ref (o 0)), (1, .int v1)] []
  | _, _ => True
set_option maxHeartbeats 4000000 in
set_option maxRecDepth 100000 in
theorem wk_M_less_0 {l : Launch} {dC : Nat → ClassId} {dI : Nat → Nat → Nat} {cI cZ : ClassId} {o : Nat → Nat}  {p : Program} {e : Env} {s : State} {m : MethodId} {args : Array Value} {below : List Frame} {meth : Method} {c : Code} {A : Nat → Prop} {post : GS → Prop} (C : GC p s m args c cM_less 2 RM wsA (dC, dI) gx_cl [(cI, .int), (cZ, .boolean)] A) (hr : meth.sig.returnType = none) (hlocks : meth.locks = false) (S : GS) (v1 : Int32) (hs : sp_M_less post (vh_M_less o (GV p l e ({ frames := 1, cells := 0, slots := 0, locals := 20 }) s m args below meth c (MQ below (va_Qv post (GB (mw cI cZ o) (dC, dI) gx_cl [(cI, .int), (cZ, .boolean)] A) A) args s 0 0 A) 2 (dC, dI) gx_cl A (mw cI cZ o))) 0 S [v1]) : GV p l e ({ frames := 1, cells := 0, slots := 0, locals := 20 }) s m args below meth c (MQ below (va_Qv post (GB (mw cI cZ o) (dC, dI) gx_cl [(cI, .int), (cZ, .boolean)] A) A) args s 0 0 A) 2 (dC, dI) gx_cl A (mw cI cZ o) S 0 [(0, .ref (o 0)), (1, .int v1)] [] := by
  refine gx_iload_n C dM_less_0 1 rfl rfl ?_
  refine gx_calls (As := [.int v1]) (rest := []) C (mt_M_leads l dC dI cI cZ o  _ _ _ hs) (gx_cwS C 1 ln_M_61 sm_M_leads in_CountedObjectsModel cd_M_leads rfl rfl (by decide +kernel) ⟨Nat.le_of_ble_eq_true rfl, Nat.le_of_ble_eq_true rfl⟩) rfl (Nat.le_of_ble_eq_true rfl) dM_less_1 (fun S1 => mw_ad _ S1) rfl (fun r2 S1 hs => ?_)
  obtain ⟨ht, hf⟩ := hs
  refine gx_if_eq C dM_less_4 75 rfl (fun hc => ?_) (fun hc => ?_)
  · have hs := ht hc
    exact gx_vret C hr hlocks dM_less_75 hs
  · have hs := hf hc
    refine gx_aload_n C dM_less_7 0 rfl rfl ?_
    refine gx_get C mo_this hi_M 7 (by decide) fl_M_23 rfl dM_less_8 ?_
    refine gx_iload_n C dM_less_11 1 rfl rfl ?_
    refine gx_iconst (v := 2) C dM_less_12 (by decide) ?_
    refine gx_idiv C dM_less_13 (by decide) ?_
    obtain ⟨hin, hs⟩ := hs
    refine gx_iald C ma_counts hin dM_less_14 ?_
    refine gx_bipush (v := 7) C dM_less_15 (by decide) ?_
    obtain ⟨ht, hf⟩ := hs
    refine gx_icmp_ge C dM_less_17 75 rfl (fun hc => ?_) (fun hc => ?_)
    · have hs := ht hc
      exact gx_vret C hr hlocks dM_less_75 hs
    · have hs := hf hc
      refine gx_aload_n C dM_less_20 0 rfl rfl ?_
      refine gx_get C mo_this hi_M 7 (by decide) fl_M_23 rfl dM_less_21 ?_
      refine gx_iload_n C dM_less_24 1 rfl rfl ?_
      refine gx_iconst (v := 2) C dM_less_25 (by decide) ?_
      refine gx_idiv C dM_less_26 (by decide) ?_
      refine gx_dup2 C dM_less_27 rfl rfl ?_
      obtain ⟨hin, hs⟩ := hs
      refine gx_iald C ma_counts hin dM_less_28 ?_
      refine gx_iconst (v := 1) C dM_less_29 (by decide) ?_
      refine gx_isub C dM_less_30 ?_
      obtain ⟨hin, hs⟩ := hs
      refine gx_iast C ma_counts hin dM_less_31 (fun S3 eS3 => ?_)
      replace hs := hs S3 eS3
      refine gx_aload_n C dM_less_32 0 rfl rfl ?_
      refine gx_get C mo_this hi_M 7 (by decide) fl_M_23 rfl dM_less_33 ?_
      refine gx_iload_n C dM_less_36 1 rfl rfl ?_
      refine gx_iconst (v := 2) C dM_less_37 (by decide) ?_
      refine gx_idiv C dM_less_38 (by decide) ?_
      obtain ⟨hin, hs⟩ := hs
      refine gx_iald C ma_counts hin dM_less_39 ?_
      obtain ⟨ht, hf⟩ := hs
      refine gx_if_ne C dM_less_40 75 rfl (fun hc => ?_) (fun hc => ?_)
      · have hs := ht hc
        exact gx_vret C hr hlocks dM_less_75 hs
      · have hs := hf hc
        refine gx_aload_n C dM_less_43 0 rfl rfl ?_
        refine gx_get C mo_this hi_M 15 (by decide) fl_M_38 rfl dM_less_44 ?_
        refine gx_aload_n C dM_less_47 0 rfl rfl ?_
        refine gx_get C mo_this hi_M 14 (by decide) fl_M_85 rfl dM_less_48 ?_
        refine gx_iload_n C dM_less_51 1 rfl rfl ?_
        refine gx_iconst (v := 2) C dM_less_52 (by decide) ?_
        refine gx_idiv C dM_less_53 (by decide) ?_
        obtain ⟨hin, hs⟩ := hs
        refine gx_iast C ma_goes hin dM_less_54 (fun S4 eS4 => ?_)
        replace hs := hs S4 eS4
        refine gx_aload_n C dM_less_55 0 rfl rfl ?_
        refine gx_get C mo_this hi_M 16 (by decide) fl_M_41 rfl dM_less_56 ?_
        refine gx_aload_n C dM_less_59 0 rfl rfl ?_
        refine gx_get C mo_this hi_M 14 (by decide) fl_M_85 rfl dM_less_60 ?_
        refine gx_iconst (v := 0) C dM_less_63 (by decide) ?_
        obtain ⟨hin, hs⟩ := hs
        refine gx_iast C ma_next hin dM_less_64 (fun S5 eS5 => ?_)
        replace hs := hs S5 eS5
        refine gx_aload_n C dM_less_65 0 rfl rfl ?_
        refine gx_dup C dM_less_66 rfl ?_
        refine gx_get C mo_this hi_M 14 (by decide) fl_M_85 rfl dM_less_67 ?_
        refine gx_iconst (v := 1) C dM_less_70 (by decide) ?_
        refine gx_iadd C dM_less_71 ?_
        refine gx_put C mo_this hi_M tyM tyM_ok nmM 14 (by decide) fl_M_85 rfl (by decide +kernel) (Nat.le_of_ble_eq_true rfl) (mp_going _ _) dM_less_72 (fun S6 eS6 => ?_)
        replace hs := hs S6 eS6
        exact gx_vret C hr hlocks dM_less_75 hs
set_option maxHeartbeats 4000000 in
set_option maxRecDepth 100000 in
theorem mt_M_less (l : Launch) (dC : Nat → ClassId) (dI : Nat → Nat → Nat) (cI cZ : ClassId) (o : Nat → Nat) (v1 : Int32) (S : GS) (post : GS → Prop) (h : wp_M_less [v1] S post) : MetV l yM_less (Cond.code yM_less cM_less 2 none :: wsA) ({ frames := 1, cells := 0, slots := 0, locals := 20 }) (dC, dI) gx_cl [(cI, .int), (cZ, .boolean)] (mw cI cZ o) [.ref (o 0), .int v1] S post := by
  refine gx_metV (by decide) wsA_good (Nat.le_of_ble_eq_true rfl) ?_
  intro p e s m args below meth c A C hr hlocks
  refine h (vh_M_less o (GV p l e ({ frames := 1, cells := 0, slots := 0, locals := 20 }) s m args below meth c (MQ below (va_Qv post (GB (mw cI cZ o) (dC, dI) gx_cl [(cI, .int), (cZ, .boolean)] A) A) args s 0 0 A) 2 (dC, dI) gx_cl A (mw cI cZ o))) (fun h S xs hs => ?_)
  unfold sp_M_less at hs
  split at hs
  · exact wk_M_less_0 C hr hlocks _ _ hs
  · exact hs.elim
/-- CountedObjectsModel.takeAway(I)V: a step from head to head -/
def sp_M_takeAway (post : GS → Prop) (V : Nat → GS → List Int32 → Prop) (h : Nat) (S : GS) (xs : List Int32) : Prop := match h, xs with
  | 0, [v1] => (vp_in v1 41 ∧ ∀ S1 : GS, S1 = gx_set 1 (v1).toNatClampNeg 0 S → (vp_in v1 41 ∧ (vp_in v1 41 ∧ wp_M_give  [S1 2 (v1).toNatClampNeg, (S1 3 (v1).toNatClampNeg) + 2] S1 (fun S2 => post S2))))
  | _, _ => False
def wp_M_takeAway (xs : List Int32) (S : GS) (post : GS → Prop) : Prop := ∀ V : Nat → GS → List Int32 → Prop, (∀ h S xs, sp_M_takeAway post V h S xs → V h S xs) → V 0 S xs
def vh_M_takeAway (o : Nat → Nat) (G : GS → Nat → List (Nat × Value) → List Value → Prop) (h : Nat) (S : GS) (xs : List Int32) : Prop := match h, xs with
  | 0, [v1] => G S 0 [(0, .ref (o 0)), (1, .int v1)] []
  | _, _ => True
set_option maxHeartbeats 4000000 in
set_option maxRecDepth 100000 in
theorem wk_M_takeAway_0 {l : Launch} {dC : Nat → ClassId} {dI : Nat → Nat → Nat} {cI cZ : ClassId} {o : Nat → Nat}  {p : Program} {e : Env} {s : State} {m : MethodId} {args : Array Value} {below : List Frame} {meth : Method} {c : Code} {A : Nat → Prop} {post : GS → Prop} (C : GC p s m args c cM_takeAway 2 RM wsA (dC, dI) gx_cl [(cI, .int), (cZ, .boolean)] A) (hr : meth.sig.returnType = none) (hlocks : meth.locks = false) (S : GS) (v1 : Int32) (hs : sp_M_takeAway post (vh_M_takeAway o (GV p l e ({ frames := 1, cells := 0, slots := 0, locals := 22 }) s m args below meth c (MQ below (va_Qv post (GB (mw cI cZ o) (dC, dI) gx_cl [(cI, .int), (cZ, .boolean)] A) A) args s 0 0 A) 2 (dC, dI) gx_cl A (mw cI cZ o))) 0 S [v1]) : GV p l e ({ frames := 1, cells := 0, slots := 0, locals := 22 }) s m args below meth c (MQ below (va_Qv post (GB (mw cI cZ o) (dC, dI) gx_cl [(cI, .int), (cZ, .boolean)] A) A) args s 0 0 A) 2 (dC, dI) gx_cl A (mw cI cZ o) S 0 [(0, .ref (o 0)), (1, .int v1)] [] := by
  refine gx_aload_n C dM_takeAway_0 0 rfl rfl ?_
  refine gx_get C mo_this hi_M 4 (by decide) fl_M_13 rfl dM_takeAway_1 ?_
  refine gx_iload_n C dM_takeAway_4 1 rfl rfl ?_
  refine gx_iconst (v := 0) C dM_takeAway_5 (by decide) ?_
  obtain ⟨hin, hs⟩ := hs
  refine gx_zast C ma_lives hin (by decide) dM_takeAway_6 (fun S1 eS1 => ?_)
  replace hs := hs S1 eS1
  refine gx_aload_n C dM_takeAway_7 0 rfl rfl ?_
  refine gx_aload_n C dM_takeAway_8 0 rfl rfl ?_
  refine gx_get C mo_this hi_M 5 (by decide) fl_M_17 rfl dM_takeAway_9 ?_
  refine gx_iload_n C dM_takeAway_12 1 rfl rfl ?_
  obtain ⟨hin, hs⟩ := hs
  refine gx_iald C ma_addresses hin dM_takeAway_13 ?_
  refine gx_aload_n C dM_takeAway_14 0 rfl rfl ?_
  refine gx_get C mo_this hi_M 6 (by decide) fl_M_20 rfl dM_takeAway_15 ?_
  refine gx_iload_n C dM_takeAway_18 1 rfl rfl ?_
  obtain ⟨hin, hs⟩ := hs
  refine gx_iald C ma_sizes hin dM_takeAway_19 ?_
  refine gx_iconst (v := 2) C dM_takeAway_20 (by decide) ?_
  refine gx_iadd C dM_takeAway_21 ?_
  refine gx_callv (As := [.int (S1 2 (v1).toNatClampNeg), .int ((S1 3 (v1).toNatClampNeg) + 2)]) (rest := []) C (mt_M_give l dC dI cI cZ o  _ _ _ _ hs) (gx_cwV C 2 ln_M_54 im_M_give se_M_give in_CountedObjectsModel cd_M_give rfl rfl (by decide +kernel) ⟨Nat.le_of_ble_eq_true rfl, Nat.le_of_ble_eq_true rfl⟩) mo_this rfl (Nat.le_of_ble_eq_true rfl) dM_takeAway_22 (fun S1 => mw_ad _ S1) rfl (fun S2 hs => ?_)
  exact gx_vret C hr hlocks dM_takeAway_25 hs
set_option maxHeartbeats 4000000 in
set_option maxRecDepth 100000 in
theorem mt_M_takeAway (l : Launch) (dC : Nat → ClassId) (dI : Nat → Nat → Nat) (cI cZ : ClassId) (o : Nat → Nat) (v1 : Int32) (S : GS) (post : GS → Prop) (h : wp_M_takeAway [v1] S post) : MetV l yM_takeAway (Cond.code yM_takeAway cM_takeAway 2 none :: wsA) ({ frames := 1, cells := 0, slots := 0, locals := 22 }) (dC, dI) gx_cl [(cI, .int), (cZ, .boolean)] (mw cI cZ o) [.ref (o 0), .int v1] S post := by
  refine gx_metV (by decide) wsA_good (Nat.le_of_ble_eq_true rfl) ?_
  intro p e s m args below meth c A C hr hlocks
  refine h (vh_M_takeAway o (GV p l e ({ frames := 1, cells := 0, slots := 0, locals := 22 }) s m args below meth c (MQ below (va_Qv post (GB (mw cI cZ o) (dC, dI) gx_cl [(cI, .int), (cZ, .boolean)] A) A) args s 0 0 A) 2 (dC, dI) gx_cl A (mw cI cZ o))) (fun h S xs hs => ?_)
  unfold sp_M_takeAway at hs
  split at hs
  · exact wk_M_takeAway_0 C hr hlocks _ _ hs
  · exact hs.elim
/-- CountedObjectsModel.leaves(I)V: a step from head to head -/
def sp_M_leaves (post : GS → Prop) (V : Nat → GS → List Int32 → Prop) (h : Nat) (S : GS) (xs : List Int32) : Prop := match h, xs with
  | 0, [v1] => (∀ S1 : GS, S1 = gx_set 100 5 0 S → wp_M_less  [v1] S1 (fun S2 => V 10 S2 [v1]))
  | 10, [v1] => (((S 100 5) ≤ 0 → post S) ∧ (¬ (S 100 5) ≤ 0 → (vp_in ((S 100 5) - 1) 41 ∧ ∀ y1 : Int32, y1 = S 9 ((S 100 5) - 1).toNatClampNeg → (vp_in ((S 100 5) - 1) 41 ∧ ∀ y2 : Int32, y2 = S 10 ((S 100 5) - 1).toNatClampNeg → (vp_in y1 41 ∧ ((y2 ≤ (S 3 (y1).toNatClampNeg) → (vp_in ((S 100 5) - 1) 41 ∧ ∀ S3 : GS, S3 = gx_set 10 ((S 100 5) - 1).toNatClampNeg (y2 + 1) S → (vp_in y1 41 ∧ (vp_in (((S3 2 (y1).toNatClampNeg) + 1) + y2) 400 ∧ wp_M_less  [S3 5 (((S3 2 (y1).toNatClampNeg) + 1) + y2).toNatClampNeg] S3 (fun S4 => V 10 S4 [v1]))))) ∧ (¬ y2 ≤ (S 3 (y1).toNatClampNeg) → (∀ S6 : GS, S6 = gx_set 100 5 ((S 100 5) - 1) S → wp_M_takeAway  [y1] S6 (fun S7 => V 10 S7 [v1])))))))))
  | _, _ => False
def wp_M_leaves (xs : List Int32) (S : GS) (post : GS → Prop) : Prop := ∀ V : Nat → GS → List Int32 → Prop, (∀ h S xs, sp_M_leaves post V h S xs → V h S xs) → V 0 S xs
def vh_M_leaves (o : Nat → Nat) (G : GS → Nat → List (Nat × Value) → List Value → Prop) (h : Nat) (S : GS) (xs : List Int32) : Prop := match h, xs with
  | 0, [v1] => G S 0 [(0, .ref (o 0)), (1, .int v1)] []
  | 10, [v1] => G S 10 [(0, .ref (o 0)), (1, .int v1)] []
  | _, _ => True
set_option maxHeartbeats 4000000 in
set_option maxRecDepth 100000 in
theorem wk_M_leaves_0 {l : Launch} {dC : Nat → ClassId} {dI : Nat → Nat → Nat} {cI cZ : ClassId} {o : Nat → Nat}  {p : Program} {e : Env} {s : State} {m : MethodId} {args : Array Value} {below : List Frame} {meth : Method} {c : Code} {A : Nat → Prop} {post : GS → Prop} (C : GC p s m args c cM_leaves 4 RM wsA (dC, dI) gx_cl [(cI, .int), (cZ, .boolean)] A) (hr : meth.sig.returnType = none) (hlocks : meth.locks = false) (S : GS) (v1 : Int32) (hs : sp_M_leaves post (vh_M_leaves o (GV p l e ({ frames := 2, cells := 0, slots := 0, locals := 43 }) s m args below meth c (MQ below (va_Qv post (GB (mw cI cZ o) (dC, dI) gx_cl [(cI, .int), (cZ, .boolean)] A) A) args s 0 0 A) 4 (dC, dI) gx_cl A (mw cI cZ o))) 0 S [v1]) : GV p l e ({ frames := 2, cells := 0, slots := 0, locals := 43 }) s m args below meth c (MQ below (va_Qv post (GB (mw cI cZ o) (dC, dI) gx_cl [(cI, .int), (cZ, .boolean)] A) A) args s 0 0 A) 4 (dC, dI) gx_cl A (mw cI cZ o) S 0 [(0, .ref (o 0)), (1, .int v1)] [] := by
  refine gx_aload_n C dM_leaves_0 0 rfl rfl ?_
  refine gx_iconst (v := 0) C dM_leaves_1 (by decide) ?_
  refine gx_put C mo_this hi_M tyM tyM_ok nmM 14 (by decide) fl_M_85 rfl (by decide +kernel) (Nat.le_of_ble_eq_true rfl) (mp_going _ _) dM_leaves_2 (fun S1 eS1 => ?_)
  replace hs := hs S1 eS1
  refine gx_aload_n C dM_leaves_5 0 rfl rfl ?_
  refine gx_iload_n C dM_leaves_6 1 rfl rfl ?_
  refine gx_callv (As := [.int v1]) (rest := []) C (mt_M_less l dC dI cI cZ o  _ _ _ hs) (gx_cwV C 1 ln_M_88 im_M_less se_M_less in_CountedObjectsModel cd_M_less rfl rfl (by decide +kernel) ⟨Nat.le_of_ble_eq_true rfl, Nat.le_of_ble_eq_true rfl⟩) mo_this rfl (Nat.le_of_ble_eq_true rfl) dM_leaves_7 (fun S1 => mw_ad _ S1) rfl (fun S2 hs => ?_)
  exact hs
set_option maxHeartbeats 4000000 in
set_option maxRecDepth 100000 in
theorem wk_M_leaves_10 {l : Launch} {dC : Nat → ClassId} {dI : Nat → Nat → Nat} {cI cZ : ClassId} {o : Nat → Nat}  {p : Program} {e : Env} {s : State} {m : MethodId} {args : Array Value} {below : List Frame} {meth : Method} {c : Code} {A : Nat → Prop} {post : GS → Prop} (C : GC p s m args c cM_leaves 4 RM wsA (dC, dI) gx_cl [(cI, .int), (cZ, .boolean)] A) (hr : meth.sig.returnType = none) (hlocks : meth.locks = false) (S : GS) (v1 : Int32) (hs : sp_M_leaves post (vh_M_leaves o (GV p l e ({ frames := 2, cells := 0, slots := 0, locals := 43 }) s m args below meth c (MQ below (va_Qv post (GB (mw cI cZ o) (dC, dI) gx_cl [(cI, .int), (cZ, .boolean)] A) A) args s 0 0 A) 4 (dC, dI) gx_cl A (mw cI cZ o))) 10 S [v1]) : GV p l e ({ frames := 2, cells := 0, slots := 0, locals := 43 }) s m args below meth c (MQ below (va_Qv post (GB (mw cI cZ o) (dC, dI) gx_cl [(cI, .int), (cZ, .boolean)] A) A) args s 0 0 A) 4 (dC, dI) gx_cl A (mw cI cZ o) S 10 [(0, .ref (o 0)), (1, .int v1)] [] := by
  refine gx_aload_n C dM_leaves_10 0 rfl rfl ?_
  refine gx_get C mo_this hi_M 14 (by decide) fl_M_85 rfl dM_leaves_11 ?_
  obtain ⟨ht, hf⟩ := hs
  refine gx_if_le C dM_leaves_14 105 rfl (fun hc => ?_) (fun hc => ?_)
  · have hs := ht hc
    exact gx_vret C hr hlocks dM_leaves_105 hs
  · have hs := hf hc
    refine gx_aload_n C dM_leaves_17 0 rfl rfl ?_
    refine gx_get C mo_this hi_M 15 (by decide) fl_M_38 rfl dM_leaves_18 ?_
    refine gx_aload_n C dM_leaves_21 0 rfl rfl ?_
    refine gx_get C mo_this hi_M 14 (by decide) fl_M_85 rfl dM_leaves_22 ?_
    refine gx_iconst (v := 1) C dM_leaves_25 (by decide) ?_
    refine gx_isub C dM_leaves_26 ?_
    obtain ⟨hin, hs⟩ := hs
    refine gx_iald C ma_goes hin dM_leaves_27 ?_
    refine gx_top (fun y1 ey1 => ?_)
    replace hs := hs y1 ey1
    refine gx_istore_n (L' := [(2, .int y1), (0, .ref (o 0)), (1, .int v1)]) C dM_leaves_28 rfl (by decide) rfl ?_
    refine gx_aload_n C dM_leaves_29 1 rfl rfl ?_
    refine gx_get C mo_this hi_M 16 (by decide) fl_M_41 rfl dM_leaves_30 ?_
    refine gx_aload_n C dM_leaves_33 1 rfl rfl ?_
    refine gx_get C mo_this hi_M 14 (by decide) fl_M_85 rfl dM_leaves_34 ?_
    refine gx_iconst (v := 1) C dM_leaves_37 (by decide) ?_
    refine gx_isub C dM_leaves_38 ?_
    obtain ⟨hin, hs⟩ := hs
    refine gx_iald C ma_next hin dM_leaves_39 ?_
    refine gx_top (fun y2 ey2 => ?_)
    replace hs := hs y2 ey2
    refine gx_istore_n (L' := [(3, .int y2), (2, .int y1), (0, .ref (o 0)), (1, .int v1)]) C dM_leaves_40 rfl (by decide) rfl ?_
    refine gx_iload_n C dM_leaves_41 0 rfl rfl ?_
    refine gx_aload_n C dM_leaves_42 2 rfl rfl ?_
    refine gx_get C mo_this hi_M 6 (by decide) fl_M_20 rfl dM_leaves_43 ?_
    refine gx_iload_n C dM_leaves_46 1 rfl rfl ?_
    obtain ⟨hin, hs⟩ := hs
    refine gx_iald C ma_sizes hin dM_leaves_47 ?_
    obtain ⟨ht, hf⟩ := hs
    refine gx_icmp_le C dM_leaves_48 69 rfl (fun hc => ?_) (fun hc => ?_)
    · have hs := ht hc
      refine gx_aload_n C dM_leaves_69 2 rfl rfl ?_
      refine gx_get C mo_this hi_M 16 (by decide) fl_M_41 rfl dM_leaves_70 ?_
      refine gx_aload_n C dM_leaves_73 2 rfl rfl ?_
      refine gx_get C mo_this hi_M 14 (by decide) fl_M_85 rfl dM_leaves_74 ?_
      refine gx_iconst (v := 1) C dM_leaves_77 (by decide) ?_
      refine gx_isub C dM_leaves_78 ?_
      refine gx_iload_n C dM_leaves_79 0 rfl rfl ?_
      refine gx_iconst (v := 1) C dM_leaves_80 (by decide) ?_
      refine gx_iadd C dM_leaves_81 ?_
      obtain ⟨hin, hs⟩ := hs
      refine gx_iast C ma_next hin dM_leaves_82 (fun S3 eS3 => ?_)
      replace hs := hs S3 eS3
      refine gx_aload_n C dM_leaves_83 2 rfl rfl ?_
      refine gx_aload_n C dM_leaves_84 2 rfl rfl ?_
      refine gx_get C mo_this hi_M 8 (by decide) fl_M_26 rfl dM_leaves_85 ?_
      refine gx_aload_n C dM_leaves_88 2 rfl rfl ?_
      refine gx_get C mo_this hi_M 5 (by decide) fl_M_17 rfl dM_leaves_89 ?_
      refine gx_iload_n C dM_leaves_92 1 rfl rfl ?_
      obtain ⟨hin, hs⟩ := hs
      refine gx_iald C ma_addresses hin dM_leaves_93 ?_
      refine gx_iconst (v := 1) C dM_leaves_94 (by decide) ?_
      refine gx_iadd C dM_leaves_95 ?_
      refine gx_iload_n C dM_leaves_96 0 rfl rfl ?_
      refine gx_iadd C dM_leaves_97 ?_
      obtain ⟨hin, hs⟩ := hs
      refine gx_iald C ma_word hin dM_leaves_98 ?_
      refine gx_callv (As := [.int (S3 5 (((S3 2 (y1).toNatClampNeg) + 1) + y2).toNatClampNeg)]) (rest := []) C (mt_M_less l dC dI cI cZ o  _ _ _ hs) (gx_cwV C 1 ln_M_88 im_M_less se_M_less in_CountedObjectsModel cd_M_less rfl rfl (by decide +kernel) ⟨Nat.le_of_ble_eq_true rfl, Nat.le_of_ble_eq_true rfl⟩) mo_this rfl (Nat.le_of_ble_eq_true rfl) dM_leaves_99 (fun S1 => mw_ad _ S1) rfl (fun S4 hs => ?_)
      refine gx_goto C dM_leaves_102 10 rfl ?_
      exact gx_sub [2, 3] rfl hs
    · have hs := hf hc
      refine gx_aload_n C dM_leaves_51 2 rfl rfl ?_
      refine gx_dup C dM_leaves_52 rfl ?_
      refine gx_get C mo_this hi_M 14 (by decide) fl_M_85 rfl dM_leaves_53 ?_
      refine gx_iconst (v := 1) C dM_leaves_56 (by decide) ?_
      refine gx_isub C dM_leaves_57 ?_
      refine gx_put C mo_this hi_M tyM tyM_ok nmM 14 (by decide) fl_M_85 rfl (by decide +kernel) (Nat.le_of_ble_eq_true rfl) (mp_going _ _) dM_leaves_58 (fun S6 eS6 => ?_)
      replace hs := hs S6 eS6
      refine gx_aload_n C dM_leaves_61 2 rfl rfl ?_
      refine gx_iload_n C dM_leaves_62 1 rfl rfl ?_
      refine gx_callv (As := [.int y1]) (rest := []) C (mt_M_takeAway l dC dI cI cZ o  _ _ _ hs) (gx_cwV C 1 ln_M_92 im_M_takeAway se_M_takeAway in_CountedObjectsModel cd_M_takeAway rfl rfl (by decide +kernel) ⟨Nat.le_of_ble_eq_true rfl, Nat.le_of_ble_eq_true rfl⟩) mo_this rfl (Nat.le_of_ble_eq_true rfl) dM_leaves_63 (fun S1 => mw_ad _ S1) rfl (fun S7 hs => ?_)
      refine gx_goto C dM_leaves_66 102 rfl ?_
      refine gx_goto C dM_leaves_102 10 rfl ?_
      exact gx_sub [2, 3] rfl hs
set_option maxHeartbeats 4000000 in
set_option maxRecDepth 100000 in
theorem mt_M_leaves (l : Launch) (dC : Nat → ClassId) (dI : Nat → Nat → Nat) (cI cZ : ClassId) (o : Nat → Nat) (v1 : Int32) (S : GS) (post : GS → Prop) (h : wp_M_leaves [v1] S post) : MetV l yM_leaves (Cond.code yM_leaves cM_leaves 4 none :: wsA) ({ frames := 2, cells := 0, slots := 0, locals := 43 }) (dC, dI) gx_cl [(cI, .int), (cZ, .boolean)] (mw cI cZ o) [.ref (o 0), .int v1] S post := by
  refine gx_metV (by decide) wsA_good (Nat.le_of_ble_eq_true rfl) ?_
  intro p e s m args below meth c A C hr hlocks
  refine h (vh_M_leaves o (GV p l e ({ frames := 2, cells := 0, slots := 0, locals := 43 }) s m args below meth c (MQ below (va_Qv post (GB (mw cI cZ o) (dC, dI) gx_cl [(cI, .int), (cZ, .boolean)] A) A) args s 0 0 A) 4 (dC, dI) gx_cl A (mw cI cZ o))) (fun h S xs hs => ?_)
  unfold sp_M_leaves at hs
  split at hs
  · exact wk_M_leaves_0 C hr hlocks _ _ hs
  · exact wk_M_leaves_10 C hr hlocks _ _ hs
  · exact hs.elim
/-- CountedObjectsModel.replace(II)I: a step from head to head -/
def sp_M_replace (post : Int32 → GS → Prop) (V : Nat → GS → List Int32 → Prop) (h : Nat) (S : GS) (xs : List Int32) : Prop := match h, xs with
  | 0, [v1, v2] => wp_M_comes  [v2] S (fun S1 => wp_M_leaves  [v1] S1 (fun S3 => post v1 S3))
  | _, _ => False
def wp_M_replace (xs : List Int32) (S : GS) (post : Int32 → GS → Prop) : Prop := ∀ V : Nat → GS → List Int32 → Prop, (∀ h S xs, sp_M_replace post V h S xs → V h S xs) → V 0 S xs
def vh_M_replace (o : Nat → Nat) (G : GS → Nat → List (Nat × Value) → List Value → Prop) (h : Nat) (S : GS) (xs : List Int32) : Prop := match h, xs with
  | 0, [v1, v2] => G S 0 [(0, .ref (o 0)), (1, .int v1), (2, .int v2)] []
  | _, _ => True
set_option maxHeartbeats 4000000 in
set_option maxRecDepth 100000 in
theorem wk_M_replace_0 {l : Launch} {dC : Nat → ClassId} {dI : Nat → Nat → Nat} {cI cZ : ClassId} {o : Nat → Nat}  {p : Program} {e : Env} {s : State} {m : MethodId} {args : Array Value} {below : List Frame} {meth : Method} {c : Code} {A : Nat → Prop} {post : Int32 → GS → Prop} (C : GC p s m args c cM_replace 3 RM wsA (dC, dI) gx_cl [(cI, .int), (cZ, .boolean)] A) (hr : meth.sig.returnType = (some .int)) (hlocks : meth.locks = false) (S : GS) (v1 : Int32) (v2 : Int32) (hs : sp_M_replace post (vh_M_replace o (GV p l e ({ frames := 3, cells := 0, slots := 0, locals := 66 }) s m args below meth c (MQ below (va_Qi post (GB (mw cI cZ o) (dC, dI) gx_cl [(cI, .int), (cZ, .boolean)] A) A) args s 0 0 A) 3 (dC, dI) gx_cl A (mw cI cZ o))) 0 S [v1, v2]) : GV p l e ({ frames := 3, cells := 0, slots := 0, locals := 66 }) s m args below meth c (MQ below (va_Qi post (GB (mw cI cZ o) (dC, dI) gx_cl [(cI, .int), (cZ, .boolean)] A) A) args s 0 0 A) 3 (dC, dI) gx_cl A (mw cI cZ o) S 0 [(0, .ref (o 0)), (1, .int v1), (2, .int v2)] [] := by
  refine gx_aload_n C dM_replace_0 0 rfl rfl ?_
  refine gx_iload_n C dM_replace_1 2 rfl rfl ?_
  refine gx_callv (As := [.int v2]) (rest := []) C (mt_M_comes l dC dI cI cZ o  _ _ _ hs) (gx_cwV C 1 ln_M_95 im_M_comes se_M_comes in_CountedObjectsModel cd_M_comes rfl rfl (by decide +kernel) ⟨Nat.le_of_ble_eq_true rfl, Nat.le_of_ble_eq_true rfl⟩) mo_this rfl (Nat.le_of_ble_eq_true rfl) dM_replace_2 (fun S1 => mw_ad _ S1) rfl (fun S1 hs => ?_)
  refine gx_aload_n C dM_replace_5 0 rfl rfl ?_
  refine gx_iload_n C dM_replace_6 1 rfl rfl ?_
  refine gx_callv (As := [.int v1]) (rest := []) C (mt_M_leaves l dC dI cI cZ o  _ _ _ hs) (gx_cwV C 1 ln_M_98 im_M_leaves se_M_leaves in_CountedObjectsModel cd_M_leaves rfl rfl (by decide +kernel) ⟨Nat.le_of_ble_eq_true rfl, Nat.le_of_ble_eq_true rfl⟩) mo_this rfl (Nat.le_of_ble_eq_true rfl) dM_replace_7 (fun S1 => mw_ad _ S1) rfl (fun S3 hs => ?_)
  refine gx_iload_n C dM_replace_10 1 rfl rfl ?_
  exact gx_iret C hr hlocks dM_replace_11 hs
set_option maxHeartbeats 4000000 in
set_option maxRecDepth 100000 in
theorem mt_M_replace (l : Launch) (dC : Nat → ClassId) (dI : Nat → Nat → Nat) (cI cZ : ClassId) (o : Nat → Nat) (v1 : Int32) (v2 : Int32) (S : GS) (post : Int32 → GS → Prop) (h : wp_M_replace [v1, v2] S post) : MetI l yM_replace (Cond.code yM_replace cM_replace 3 (some .int) :: wsA) ({ frames := 3, cells := 0, slots := 0, locals := 66 }) (dC, dI) gx_cl [(cI, .int), (cZ, .boolean)] (mw cI cZ o) [.ref (o 0), .int v1, .int v2] S post := by
  refine gx_metI (by decide) wsA_good (Nat.le_of_ble_eq_true rfl) ?_
  intro p e s m args below meth c A C hr hlocks
  refine h (vh_M_replace o (GV p l e ({ frames := 3, cells := 0, slots := 0, locals := 66 }) s m args below meth c (MQ below (va_Qi post (GB (mw cI cZ o) (dC, dI) gx_cl [(cI, .int), (cZ, .boolean)] A) A) args s 0 0 A) 3 (dC, dI) gx_cl A (mw cI cZ o))) (fun h S xs hs => ?_)
  unfold sp_M_replace at hs
  split at hs
  · exact wk_M_replace_0 C hr hlocks _ _ _ hs
  · exact hs.elim
/-- CountedObjectsModel.reach(I)Z: a step from head to head -/
def sp_M_reach (post : Int32 → GS → Prop) (V : Nat → GS → List Int32 → Prop) (h : Nat) (S : GS) (xs : List Int32) : Prop := match h, xs with
  | 0, [v1] => wp_M_leads  [v1] S (fun r2 S1 => ((r2 = 0 → ∀ y3 : Int32, y3 = 0 → ((y3 = 0 → (narrow .boolean (.int y3) = .int y3 ∧ post y3 S1)) ∧ (¬ y3 = 0 → (vp_in (v1 / 2) 41 ∧ ∀ S4 : GS, S4 = gx_set 11 (v1 / 2).toNatClampNeg 1 S1 → (narrow .boolean (.int y3) = .int y3 ∧ post y3 S4))))) ∧ (¬ r2 = 0 → (vp_in (v1 / 2) 41 ∧ ((¬ (S1 11 (v1 / 2).toNatClampNeg) = 0 → ∀ y5 : Int32, y5 = 0 → ((y5 = 0 → (narrow .boolean (.int y5) = .int y5 ∧ post y5 S1)) ∧ (¬ y5 = 0 → (vp_in (v1 / 2) 41 ∧ ∀ S6 : GS, S6 = gx_set 11 (v1 / 2).toNatClampNeg 1 S1 → (narrow .boolean (.int y5) = .int y5 ∧ post y5 S6))))) ∧ ((S1 11 (v1 / 2).toNatClampNeg) = 0 → ∀ y7 : Int32, y7 = 1 → ((y7 = 0 → (narrow .boolean (.int y7) = .int y7 ∧ post y7 S1)) ∧ (¬ y7 = 0 → (vp_in (v1 / 2) 41 ∧ ∀ S8 : GS, S8 = gx_set 11 (v1 / 2).toNatClampNeg 1 S1 → (narrow .boolean (.int y7) = .int y7 ∧ post y7 S8))))))))))
  | _, _ => False
def wp_M_reach (xs : List Int32) (S : GS) (post : Int32 → GS → Prop) : Prop := ∀ V : Nat → GS → List Int32 → Prop, (∀ h S xs, sp_M_reach post V h S xs → V h S xs) → V 0 S xs
def vh_M_reach (o : Nat → Nat) (G : GS → Nat → List (Nat × Value) → List Value → Prop) (h : Nat) (S : GS) (xs : List Int32) : Prop := match h, xs with
  | 0, [v1] => G S 0 [(0, .ref (o 0)), (1, .int v1)] []
  | _, _ => True
set_option maxHeartbeats 4000000 in
set_option maxRecDepth 100000 in
theorem wk_M_reach_0 {l : Launch} {dC : Nat → ClassId} {dI : Nat → Nat → Nat} {cI cZ : ClassId} {o : Nat → Nat}  {p : Program} {e : Env} {s : State} {m : MethodId} {args : Array Value} {below : List Frame} {meth : Method} {c : Code} {A : Nat → Prop} {post : Int32 → GS → Prop} (C : GC p s m args c cM_reach 3 RM wsA (dC, dI) gx_cl [(cI, .int), (cZ, .boolean)] A) (hr : meth.sig.returnType = (some .boolean)) (hlocks : meth.locks = false) (S : GS) (v1 : Int32) (hs : sp_M_reach post (vh_M_reach o (GV p l e ({ frames := 1, cells := 0, slots := 0, locals := 20 }) s m args below meth c (MQ below (va_Qi post (GB (mw cI cZ o) (dC, dI) gx_cl [(cI, .int), (cZ, .boolean)] A) A) args s 0 0 A) 3 (dC, dI) gx_cl A (mw cI cZ o))) 0 S [v1]) : GV p l e ({ frames := 1, cells := 0, slots := 0, locals := 20 }) s m args below meth c (MQ below (va_Qi post (GB (mw cI cZ o) (dC, dI) gx_cl [(cI, .int), (cZ, .boolean)] A) A) args s 0 0 A) 3 (dC, dI) gx_cl A (mw cI cZ o) S 0 [(0, .ref (o 0)), (1, .int v1)] [] := by
  refine gx_iload_n C dM_reach_0 1 rfl rfl ?_
  refine gx_calls (As := [.int v1]) (rest := []) C (mt_M_leads l dC dI cI cZ o  _ _ _ hs) (gx_cwS C 1 ln_M_61 sm_M_leads in_CountedObjectsModel cd_M_leads rfl rfl (by decide +kernel) ⟨Nat.le_of_ble_eq_true rfl, Nat.le_of_ble_eq_true rfl⟩) rfl (Nat.le_of_ble_eq_true rfl) dM_reach_1 (fun S1 => mw_ad _ S1) rfl (fun r2 S1 hs => ?_)
  obtain ⟨ht, hf⟩ := hs
  refine gx_if_eq C dM_reach_4 22 rfl (fun hc => ?_) (fun hc => ?_)
  · have hs := ht hc
    refine gx_iconst (v := 0) C dM_reach_22 (by decide) ?_
    refine gx_top (fun y3 ey3 => ?_)
    replace hs := hs y3 ey3
    refine gx_istore_n (L' := [(2, .int y3), (0, .ref (o 0)), (1, .int v1)]) C dM_reach_23 rfl (by decide) rfl ?_
    refine gx_iload_n C dM_reach_24 0 rfl rfl ?_
    obtain ⟨ht, hf⟩ := hs
    refine gx_if_eq C dM_reach_25 37 rfl (fun hc => ?_) (fun hc => ?_)
    · have hs := ht hc
      refine gx_iload_n C dM_reach_37 0 rfl rfl ?_
      exact gx_zret C hr hlocks dM_reach_38 hs.2 hs.1
    · have hs := hf hc
      refine gx_aload_n C dM_reach_28 1 rfl rfl ?_
      refine gx_get C mo_this hi_M 17 (by decide) fl_M_44 rfl dM_reach_29 ?_
      refine gx_iload_n C dM_reach_32 2 rfl rfl ?_
      refine gx_iconst (v := 2) C dM_reach_33 (by decide) ?_
      refine gx_idiv C dM_reach_34 (by decide) ?_
      refine gx_iconst (v := 1) C dM_reach_35 (by decide) ?_
      obtain ⟨hin, hs⟩ := hs
      refine gx_zast C ma_reached hin (by decide) dM_reach_36 (fun S4 eS4 => ?_)
      replace hs := hs S4 eS4
      refine gx_iload_n C dM_reach_37 0 rfl rfl ?_
      exact gx_zret C hr hlocks dM_reach_38 hs.2 hs.1
  · have hs := hf hc
    refine gx_aload_n C dM_reach_7 0 rfl rfl ?_
    refine gx_get C mo_this hi_M 17 (by decide) fl_M_44 rfl dM_reach_8 ?_
    refine gx_iload_n C dM_reach_11 1 rfl rfl ?_
    refine gx_iconst (v := 2) C dM_reach_12 (by decide) ?_
    refine gx_idiv C dM_reach_13 (by decide) ?_
    obtain ⟨hin, hs⟩ := hs
    refine gx_zald C ma_reached hin dM_reach_14 ?_
    obtain ⟨ht, hf⟩ := hs
    refine gx_if_ne C dM_reach_15 22 rfl (fun hc => ?_) (fun hc => ?_)
    · have hs := ht hc
      refine gx_iconst (v := 0) C dM_reach_22 (by decide) ?_
      refine gx_top (fun y5 ey5 => ?_)
      replace hs := hs y5 ey5
      refine gx_istore_n (L' := [(2, .int y5), (0, .ref (o 0)), (1, .int v1)]) C dM_reach_23 rfl (by decide) rfl ?_
      refine gx_iload_n C dM_reach_24 0 rfl rfl ?_
      obtain ⟨ht, hf⟩ := hs
      refine gx_if_eq C dM_reach_25 37 rfl (fun hc => ?_) (fun hc => ?_)
      · have hs := ht hc
        refine gx_iload_n C dM_reach_37 0 rfl rfl ?_
        exact gx_zret C hr hlocks dM_reach_38 hs.2 hs.1
      · have hs := hf hc
        refine gx_aload_n C dM_reach_28 1 rfl rfl ?_
        refine gx_get C mo_this hi_M 17 (by decide) fl_M_44 rfl dM_reach_29 ?_
        refine gx_iload_n C dM_reach_32 2 rfl rfl ?_
        refine gx_iconst (v := 2) C dM_reach_33 (by decide) ?_
        refine gx_idiv C dM_reach_34 (by decide) ?_
        refine gx_iconst (v := 1) C dM_reach_35 (by decide) ?_
        obtain ⟨hin, hs⟩ := hs
        refine gx_zast C ma_reached hin (by decide) dM_reach_36 (fun S6 eS6 => ?_)
        replace hs := hs S6 eS6
        refine gx_iload_n C dM_reach_37 0 rfl rfl ?_
        exact gx_zret C hr hlocks dM_reach_38 hs.2 hs.1
    · have hs := hf hc
      refine gx_iconst (v := 1) C dM_reach_18 (by decide) ?_
      refine gx_goto C dM_reach_19 23 rfl ?_
      refine gx_top (fun y7 ey7 => ?_)
      replace hs := hs y7 ey7
      refine gx_istore_n (L' := [(2, .int y7), (0, .ref (o 0)), (1, .int v1)]) C dM_reach_23 rfl (by decide) rfl ?_
      refine gx_iload_n C dM_reach_24 0 rfl rfl ?_
      obtain ⟨ht, hf⟩ := hs
      refine gx_if_eq C dM_reach_25 37 rfl (fun hc => ?_) (fun hc => ?_)
      · have hs := ht hc
        refine gx_iload_n C dM_reach_37 0 rfl rfl ?_
        exact gx_zret C hr hlocks dM_reach_38 hs.2 hs.1
      · have hs := hf hc
        refine gx_aload_n C dM_reach_28 1 rfl rfl ?_
        refine gx_get C mo_this hi_M 17 (by decide) fl_M_44 rfl dM_reach_29 ?_
        refine gx_iload_n C dM_reach_32 2 rfl rfl ?_
        refine gx_iconst (v := 2) C dM_reach_33 (by decide) ?_
        refine gx_idiv C dM_reach_34 (by decide) ?_
        refine gx_iconst (v := 1) C dM_reach_35 (by decide) ?_
        obtain ⟨hin, hs⟩ := hs
        refine gx_zast C ma_reached hin (by decide) dM_reach_36 (fun S8 eS8 => ?_)
        replace hs := hs S8 eS8
        refine gx_iload_n C dM_reach_37 0 rfl rfl ?_
        exact gx_zret C hr hlocks dM_reach_38 hs.2 hs.1
set_option maxHeartbeats 4000000 in
set_option maxRecDepth 100000 in
theorem mt_M_reach (l : Launch) (dC : Nat → ClassId) (dI : Nat → Nat → Nat) (cI cZ : ClassId) (o : Nat → Nat) (v1 : Int32) (S : GS) (post : Int32 → GS → Prop) (h : wp_M_reach [v1] S post) : MetI l yM_reach (Cond.code yM_reach cM_reach 3 (some .boolean) :: wsA) ({ frames := 1, cells := 0, slots := 0, locals := 20 }) (dC, dI) gx_cl [(cI, .int), (cZ, .boolean)] (mw cI cZ o) [.ref (o 0), .int v1] S post := by
  refine gx_metI (by decide) wsA_good (Nat.le_of_ble_eq_true rfl) ?_
  intro p e s m args below meth c A C hr hlocks
  refine h (vh_M_reach o (GV p l e ({ frames := 1, cells := 0, slots := 0, locals := 20 }) s m args below meth c (MQ below (va_Qi post (GB (mw cI cZ o) (dC, dI) gx_cl [(cI, .int), (cZ, .boolean)] A) A) args s 0 0 A) 3 (dC, dI) gx_cl A (mw cI cZ o))) (fun h S xs hs => ?_)
  unfold sp_M_reach at hs
  split at hs
  · exact wk_M_reach_0 C hr hlocks _ _ hs
  · exact hs.elim
/-- CountedObjectsModel.spread(I)Z: a step from head to head -/
def sp_M_spread (post : Int32 → GS → Prop) (V : Nat → GS → List Int32 → Prop) (h : Nat) (S : GS) (xs : List Int32) : Prop := match h, xs with
  | 0, [v1] => ∀ y1 : Int32, y1 = 0 → ∀ y2 : Int32, y2 = 0 → V 4 S [v1, y1, y2]
  | 4, [v1, v2, v3] => (vp_in v1 41 ∧ (((S 3 (v1).toNatClampNeg) < v3 → (narrow .boolean (.int v2) = .int v2 ∧ post v2 S)) ∧ (¬ (S 3 (v1).toNatClampNeg) < v3 → (vp_in v1 41 ∧ (vp_in (((S 2 (v1).toNatClampNeg) + 1) + v3) 400 ∧ wp_M_reach  [S 5 (((S 2 (v1).toNatClampNeg) + 1) + v3).toNatClampNeg] S (fun r2 S1 => ((¬ v2 = 0 → ∀ y3 : Int32, y3 = 1 → (∀ y4 : Int32, y4 = v3 + 1 → V 4 S1 [v1, y3, y4])) ∧ (v2 = 0 → ((r2 = 0 → ∀ y5 : Int32, y5 = 0 → (∀ y6 : Int32, y6 = v3 + 1 → V 4 S1 [v1, y5, y6])) ∧ (¬ r2 = 0 → ∀ y7 : Int32, y7 = 1 → (∀ y8 : Int32, y8 = v3 + 1 → V 4 S1 [v1, y7, y8])))))))))))
  | _, _ => False
def wp_M_spread (xs : List Int32) (S : GS) (post : Int32 → GS → Prop) : Prop := ∀ V : Nat → GS → List Int32 → Prop, (∀ h S xs, sp_M_spread post V h S xs → V h S xs) → V 0 S xs
def vh_M_spread (o : Nat → Nat) (G : GS → Nat → List (Nat × Value) → List Value → Prop) (h : Nat) (S : GS) (xs : List Int32) : Prop := match h, xs with
  | 0, [v1] => G S 0 [(0, .ref (o 0)), (1, .int v1)] []
  | 4, [v1, v2, v3] => G S 4 [(0, .ref (o 0)), (1, .int v1), (2, .int v2), (3, .int v3)] []
  | _, _ => True
set_option maxHeartbeats 4000000 in
set_option maxRecDepth 100000 in
theorem wk_M_spread_0 {l : Launch} {dC : Nat → ClassId} {dI : Nat → Nat → Nat} {cI cZ : ClassId} {o : Nat → Nat}  {p : Program} {e : Env} {s : State} {m : MethodId} {args : Array Value} {below : List Frame} {meth : Method} {c : Code} {A : Nat → Prop} {post : Int32 → GS → Prop} (C : GC p s m args c cM_spread 5 RM wsA (dC, dI) gx_cl [(cI, .int), (cZ, .boolean)] A) (hr : meth.sig.returnType = (some .boolean)) (hlocks : meth.locks = false) (S : GS) (v1 : Int32) (hs : sp_M_spread post (vh_M_spread o (GV p l e ({ frames := 2, cells := 0, slots := 0, locals := 42 }) s m args below meth c (MQ below (va_Qi post (GB (mw cI cZ o) (dC, dI) gx_cl [(cI, .int), (cZ, .boolean)] A) A) args s 0 0 A) 5 (dC, dI) gx_cl A (mw cI cZ o))) 0 S [v1]) : GV p l e ({ frames := 2, cells := 0, slots := 0, locals := 42 }) s m args below meth c (MQ below (va_Qi post (GB (mw cI cZ o) (dC, dI) gx_cl [(cI, .int), (cZ, .boolean)] A) A) args s 0 0 A) 5 (dC, dI) gx_cl A (mw cI cZ o) S 0 [(0, .ref (o 0)), (1, .int v1)] [] := by
  refine gx_iconst (v := 0) C dM_spread_0 (by decide) ?_
  refine gx_top (fun y1 ey1 => ?_)
  replace hs := hs y1 ey1
  refine gx_istore_n (L' := [(2, .int y1), (0, .ref (o 0)), (1, .int v1)]) C dM_spread_1 rfl (by decide) rfl ?_
  refine gx_iconst (v := 0) C dM_spread_2 (by decide) ?_
  refine gx_top (fun y2 ey2 => ?_)
  replace hs := hs y2 ey2
  refine gx_istore_n (L' := [(3, .int y2), (2, .int y1), (0, .ref (o 0)), (1, .int v1)]) C dM_spread_3 rfl (by decide) rfl ?_
  exact gx_sub [2, 3, 1, 0] rfl hs
set_option maxHeartbeats 4000000 in
set_option maxRecDepth 100000 in
theorem wk_M_spread_4 {l : Launch} {dC : Nat → ClassId} {dI : Nat → Nat → Nat} {cI cZ : ClassId} {o : Nat → Nat}  {p : Program} {e : Env} {s : State} {m : MethodId} {args : Array Value} {below : List Frame} {meth : Method} {c : Code} {A : Nat → Prop} {post : Int32 → GS → Prop} (C : GC p s m args c cM_spread 5 RM wsA (dC, dI) gx_cl [(cI, .int), (cZ, .boolean)] A) (hr : meth.sig.returnType = (some .boolean)) (hlocks : meth.locks = false) (S : GS) (v1 : Int32) (v2 : Int32) (v3 : Int32) (hs : sp_M_spread post (vh_M_spread o (GV p l e ({ frames := 2, cells := 0, slots := 0, locals := 42 }) s m args below meth c (MQ below (va_Qi post (GB (mw cI cZ o) (dC, dI) gx_cl [(cI, .int), (cZ, .boolean)] A) A) args s 0 0 A) 5 (dC, dI) gx_cl A (mw cI cZ o))) 4 S [v1, v2, v3]) : GV p l e ({ frames := 2, cells := 0, slots := 0, locals := 42 }) s m args below meth c (MQ below (va_Qi post (GB (mw cI cZ o) (dC, dI) gx_cl [(cI, .int), (cZ, .boolean)] A) A) args s 0 0 A) 5 (dC, dI) gx_cl A (mw cI cZ o) S 4 [(0, .ref (o 0)), (1, .int v1), (2, .int v2), (3, .int v3)] [] := by
  refine gx_iload_n C dM_spread_4 3 rfl rfl ?_
  refine gx_aload_n C dM_spread_5 0 rfl rfl ?_
  refine gx_get C mo_this hi_M 6 (by decide) fl_M_20 rfl dM_spread_6 ?_
  refine gx_iload_n C dM_spread_9 1 rfl rfl ?_
  obtain ⟨hin, hs⟩ := hs
  refine gx_iald C ma_sizes hin dM_spread_10 ?_
  obtain ⟨ht, hf⟩ := hs
  refine gx_icmp_gt C dM_spread_11 56 rfl (fun hc => ?_) (fun hc => ?_)
  · have hs := ht hc
    refine gx_iload_n C dM_spread_56 2 rfl rfl ?_
    exact gx_zret C hr hlocks dM_spread_57 hs.2 hs.1
  · have hs := hf hc
    refine gx_aload_n C dM_spread_14 0 rfl rfl ?_
    refine gx_aload_n C dM_spread_15 0 rfl rfl ?_
    refine gx_get C mo_this hi_M 8 (by decide) fl_M_26 rfl dM_spread_16 ?_
    refine gx_aload_n C dM_spread_19 0 rfl rfl ?_
    refine gx_get C mo_this hi_M 5 (by decide) fl_M_17 rfl dM_spread_20 ?_
    refine gx_iload_n C dM_spread_23 1 rfl rfl ?_
    obtain ⟨hin, hs⟩ := hs
    refine gx_iald C ma_addresses hin dM_spread_24 ?_
    refine gx_iconst (v := 1) C dM_spread_25 (by decide) ?_
    refine gx_iadd C dM_spread_26 ?_
    refine gx_iload_n C dM_spread_27 3 rfl rfl ?_
    refine gx_iadd C dM_spread_28 ?_
    obtain ⟨hin, hs⟩ := hs
    refine gx_iald C ma_word hin dM_spread_29 ?_
    refine gx_calli (As := [.int (S 5 (((S 2 (v1).toNatClampNeg) + 1) + v3).toNatClampNeg)]) (rest := []) C (mt_M_reach l dC dI cI cZ o  _ _ _ hs) (gx_cwV C 1 ln_M_101 im_M_reach se_M_reach in_CountedObjectsModel cd_M_reach rfl rfl (by decide +kernel) ⟨Nat.le_of_ble_eq_true rfl, Nat.le_of_ble_eq_true rfl⟩) mo_this rfl (Nat.le_of_ble_eq_true rfl) dM_spread_30 (fun S1 => mw_ad _ S1) rfl (fun r2 S1 hs => ?_)
    refine gx_istore (L' := [(4, .int r2), (0, .ref (o 0)), (1, .int v1), (2, .int v2), (3, .int v3)]) C dM_spread_33 (by decide) rfl ?_
    refine gx_iload_n C dM_spread_35 3 rfl rfl ?_
    obtain ⟨ht, hf⟩ := hs
    refine gx_if_ne C dM_spread_36 44 rfl (fun hc => ?_) (fun hc => ?_)
    · have hs := ht hc
      refine gx_iconst (v := 1) C dM_spread_44 (by decide) ?_
      refine gx_goto C dM_spread_45 49 rfl ?_
      refine gx_top (fun y3 ey3 => ?_)
      replace hs := hs y3 ey3
      refine gx_istore_n (L' := [(2, .int y3), (4, .int r2), (0, .ref (o 0)), (1, .int v1), (3, .int v3)]) C dM_spread_49 rfl (by decide) rfl ?_
      refine gx_iinc (v0 := 1) (f := fun v => [(3, .int v), (2, .int y3), (4, .int r2), (0, .ref (o 0)), (1, .int v1)]) C dM_spread_50 4 rfl (by decide) (by decide) (fun _ => rfl) (fun y4 ey4 => ?_)
      replace hs := hs y4 ey4
      refine gx_goto C dM_spread_53 4 rfl ?_
      exact gx_sub [3, 4, 1, 0] rfl hs
    · have hs := hf hc
      refine gx_iload C dM_spread_39 0 rfl ?_
      obtain ⟨ht, hf⟩ := hs
      refine gx_if_eq C dM_spread_41 48 rfl (fun hc => ?_) (fun hc => ?_)
      · have hs := ht hc
        refine gx_iconst (v := 0) C dM_spread_48 (by decide) ?_
        refine gx_top (fun y5 ey5 => ?_)
        replace hs := hs y5 ey5
        refine gx_istore_n (L' := [(2, .int y5), (4, .int r2), (0, .ref (o 0)), (1, .int v1), (3, .int v3)]) C dM_spread_49 rfl (by decide) rfl ?_
        refine gx_iinc (v0 := 1) (f := fun v => [(3, .int v), (2, .int y5), (4, .int r2), (0, .ref (o 0)), (1, .int v1)]) C dM_spread_50 4 rfl (by decide) (by decide) (fun _ => rfl) (fun y6 ey6 => ?_)
        replace hs := hs y6 ey6
        refine gx_goto C dM_spread_53 4 rfl ?_
        exact gx_sub [3, 4, 1, 0] rfl hs
      · have hs := hf hc
        refine gx_iconst (v := 1) C dM_spread_44 (by decide) ?_
        refine gx_goto C dM_spread_45 49 rfl ?_
        refine gx_top (fun y7 ey7 => ?_)
        replace hs := hs y7 ey7
        refine gx_istore_n (L' := [(2, .int y7), (4, .int r2), (0, .ref (o 0)), (1, .int v1), (3, .int v3)]) C dM_spread_49 rfl (by decide) rfl ?_
        refine gx_iinc (v0 := 1) (f := fun v => [(3, .int v), (2, .int y7), (4, .int r2), (0, .ref (o 0)), (1, .int v1)]) C dM_spread_50 4 rfl (by decide) (by decide) (fun _ => rfl) (fun y8 ey8 => ?_)
        replace hs := hs y8 ey8
        refine gx_goto C dM_spread_53 4 rfl ?_
        exact gx_sub [3, 4, 1, 0] rfl hs
set_option maxHeartbeats 4000000 in
set_option maxRecDepth 100000 in
theorem mt_M_spread (l : Launch) (dC : Nat → ClassId) (dI : Nat → Nat → Nat) (cI cZ : ClassId) (o : Nat → Nat) (v1 : Int32) (S : GS) (post : Int32 → GS → Prop) (h : wp_M_spread [v1] S post) : MetI l yM_spread (Cond.code yM_spread cM_spread 5 (some .boolean) :: wsA) ({ frames := 2, cells := 0, slots := 0, locals := 42 }) (dC, dI) gx_cl [(cI, .int), (cZ, .boolean)] (mw cI cZ o) [.ref (o 0), .int v1] S post := by
  refine gx_metI (by decide) wsA_good (Nat.le_of_ble_eq_true rfl) ?_
  intro p e s m args below meth c A C hr hlocks
  refine h (vh_M_spread o (GV p l e ({ frames := 2, cells := 0, slots := 0, locals := 42 }) s m args below meth c (MQ below (va_Qi post (GB (mw cI cZ o) (dC, dI) gx_cl [(cI, .int), (cZ, .boolean)] A) A) args s 0 0 A) 5 (dC, dI) gx_cl A (mw cI cZ o))) (fun h S xs hs => ?_)
  unfold sp_M_spread at hs
  split at hs
  · exact wk_M_spread_0 C hr hlocks _ _ hs
  · exact wk_M_spread_4 C hr hlocks _ _ _ _ hs
  · exact hs.elim
/-- CountedObjectsModel.gather(I)I: a step from head to head -/
def sp_M_gather (post : Int32 → GS → Prop) (V : Nat → GS → List Int32 → Prop) (h : Nat) (S : GS) (xs : List Int32) : Prop := match h, xs with
  | 0, [v1] => ∀ y1 : Int32, y1 = 1 → V 2 S [v1, y1]
  | 2, [v1, v2] => (((S 100 2) < v2 → wp_M_reach  [v1] S (fun r2 S1 => ∀ y3 : Int32, y3 = 0 → V 31 S1 [v1, r2, y3])) ∧ (¬ (S 100 2) < v2 → (vp_in v2 41 ∧ ∀ S4 : GS, S4 = gx_set 11 (v2).toNatClampNeg 0 S → (∀ y5 : Int32, y5 = v2 + 1 → V 2 S4 [v1, y5]))))
  | 31, [v1, v2, v3] => ((8 ≤ v3 → V 70 S [v1, v2, v3]) ∧ (¬ 8 ≤ v3 → (vp_in v3 8 ∧ wp_M_reach  [S 0 (v3).toNatClampNeg] S (fun r2 S1 => ((¬ v2 = 0 → ∀ y3 : Int32, y3 = 1 → (∀ y4 : Int32, y4 = v3 + 1 → V 31 S1 [v1, y3, y4])) ∧ (v2 = 0 → ((r2 = 0 → ∀ y5 : Int32, y5 = 0 → (∀ y6 : Int32, y6 = v3 + 1 → V 31 S1 [v1, y5, y6])) ∧ (¬ r2 = 0 → ∀ y7 : Int32, y7 = 1 → (∀ y8 : Int32, y8 = v3 + 1 → V 31 S1 [v1, y7, y8])))))))))
  | 70, [v1, v2, v3] => ((v2 = 0 → ∀ y1 : Int32, y1 = 0 → ∀ y2 : Int32, y2 = 1 → V 148 S [v1, v2, y1, y2]) ∧ (¬ v2 = 0 → ∀ y3 : Int32, y3 = 0 → ∀ y4 : Int32, y4 = 1 → V 78 S [v1, y3, y4]))
  | 78, [v1, v2, v3] => (((S 100 2) < v3 → V 70 S [v1, v2, v3]) ∧ (¬ (S 100 2) < v3 → (vp_in v3 41 ∧ (((S 1 (v3).toNatClampNeg) = 0 → ∀ y1 : Int32, y1 = 0 → ((¬ v2 = 0 → ∀ y2 : Int32, y2 = 1 → (∀ y3 : Int32, y3 = v3 + 1 → V 78 S [v1, y2, y3])) ∧ (v2 = 0 → ((y1 = 0 → ∀ y4 : Int32, y4 = 0 → (∀ y5 : Int32, y5 = v3 + 1 → V 78 S [v1, y4, y5])) ∧ (¬ y1 = 0 → ∀ y6 : Int32, y6 = 1 → (∀ y7 : Int32, y7 = v3 + 1 → V 78 S [v1, y6, y7])))))) ∧ (¬ (S 1 (v3).toNatClampNeg) = 0 → (vp_in v3 41 ∧ (((S 11 (v3).toNatClampNeg) = 0 → ∀ y8 : Int32, y8 = 0 → ((¬ v2 = 0 → ∀ y9 : Int32, y9 = 1 → (∀ y10 : Int32, y10 = v3 + 1 → V 78 S [v1, y9, y10])) ∧ (v2 = 0 → ((y8 = 0 → ∀ y11 : Int32, y11 = 0 → (∀ y12 : Int32, y12 = v3 + 1 → V 78 S [v1, y11, y12])) ∧ (¬ y8 = 0 → ∀ y13 : Int32, y13 = 1 → (∀ y14 : Int32, y14 = v3 + 1 → V 78 S [v1, y13, y14])))))) ∧ (¬ (S 11 (v3).toNatClampNeg) = 0 → wp_M_spread  [v3] S (fun r16 S15 => ((r16 = 0 → ∀ y17 : Int32, y17 = 0 → ((¬ v2 = 0 → ∀ y18 : Int32, y18 = 1 → (∀ y19 : Int32, y19 = v3 + 1 → V 78 S15 [v1, y18, y19])) ∧ (v2 = 0 → ((y17 = 0 → ∀ y20 : Int32, y20 = 0 → (∀ y21 : Int32, y21 = v3 + 1 → V 78 S15 [v1, y20, y21])) ∧ (¬ y17 = 0 → ∀ y22 : Int32, y22 = 1 → (∀ y23 : Int32, y23 = v3 + 1 → V 78 S15 [v1, y22, y23])))))) ∧ (¬ r16 = 0 → ∀ y24 : Int32, y24 = 1 → ((¬ v2 = 0 → ∀ y25 : Int32, y25 = 1 → (∀ y26 : Int32, y26 = v3 + 1 → V 78 S15 [v1, y25, y26])) ∧ (v2 = 0 → ((y24 = 0 → ∀ y27 : Int32, y27 = 0 → (∀ y28 : Int32, y28 = v3 + 1 → V 78 S15 [v1, y27, y28])) ∧ (¬ y24 = 0 → ∀ y29 : Int32, y29 = 1 → (∀ y30 : Int32, y30 = v3 + 1 → V 78 S15 [v1, y29, y30]))))))))))))))))
  | 148, [v1, v2, v3, v4] => (((S 100 2) < v4 → ∀ y1 : Int32, y1 = 0 → V 203 S [v1, v2, v3, y1]) ∧ (¬ (S 100 2) < v4 → (vp_in v4 41 ∧ ∀ S2 : GS, S2 = gx_set 4 (v4).toNatClampNeg 0 S → (vp_in v4 41 ∧ (((S2 1 (v4).toNatClampNeg) = 0 → (∀ y3 : Int32, y3 = v4 + 1 → V 148 S2 [v1, v2, v3, y3])) ∧ (¬ (S2 1 (v4).toNatClampNeg) = 0 → (vp_in v4 41 ∧ ((¬ (S2 11 (v4).toNatClampNeg) = 0 → (∀ y4 : Int32, y4 = v4 + 1 → V 148 S2 [v1, v2, v3, y4])) ∧ ((S2 11 (v4).toNatClampNeg) = 0 → wp_M_takeAway  [v4] S2 (fun S5 => (∀ y7 : Int32, y7 = v3 + 1 → (∀ y8 : Int32, y8 = v4 + 1 → V 148 S5 [v1, v2, y7, y8]))))))))))))
  | 203, [v1, v2, v3, v4] => ((8 ≤ v4 → ∀ y1 : Int32, y1 = 1 → V 230 S [v1, v2, v3, y1]) ∧ (¬ 8 ≤ v4 → (vp_in v4 8 ∧ wp_M_comes  [S 0 (v4).toNatClampNeg] S (fun S2 => (∀ y4 : Int32, y4 = v4 + 1 → V 203 S2 [v1, v2, v3, y4])))))
  | 230, [v1, v2, v3, v4] => (((S 100 2) < v4 → post v3 S) ∧ (¬ (S 100 2) < v4 → ∀ y1 : Int32, y1 = 0 → V 242 S [v1, v2, v3, v4, y1]))
  | 242, [v1, v2, v3, v4, v5] => (vp_in v4 41 ∧ (((S 1 (v4).toNatClampNeg) = 0 → (∀ y1 : Int32, y1 = v4 + 1 → V 230 S [v1, v2, v3, y1])) ∧ (¬ (S 1 (v4).toNatClampNeg) = 0 → (vp_in v4 41 ∧ (((S 3 (v4).toNatClampNeg) < v5 → (∀ y2 : Int32, y2 = v4 + 1 → V 230 S [v1, v2, v3, y2])) ∧ (¬ (S 3 (v4).toNatClampNeg) < v5 → (vp_in v4 41 ∧ (vp_in (((S 2 (v4).toNatClampNeg) + 1) + v5) 400 ∧ wp_M_comes  [S 5 (((S 2 (v4).toNatClampNeg) + 1) + v5).toNatClampNeg] S (fun S3 => (∀ y5 : Int32, y5 = v5 + 1 → V 242 S3 [v1, v2, v3, v4, y5]))))))))))
  | _, _ => False
def wp_M_gather (xs : List Int32) (S : GS) (post : Int32 → GS → Prop) : Prop := ∀ V : Nat → GS → List Int32 → Prop, (∀ h S xs, sp_M_gather post V h S xs → V h S xs) → V 0 S xs
def vh_M_gather (o : Nat → Nat) (G : GS → Nat → List (Nat × Value) → List Value → Prop) (h : Nat) (S : GS) (xs : List Int32) : Prop := match h, xs with
  | 0, [v1] => G S 0 [(0, .ref (o 0)), (1, .int v1)] []
  | 2, [v1, v2] => G S 2 [(0, .ref (o 0)), (1, .int v1), (2, .int v2)] []
  | 31, [v1, v2, v3] => G S 31 [(0, .ref (o 0)), (1, .int v1), (2, .int v2), (3, .int v3)] []
  | 70, [v1, v2, v3] => G S 70 [(0, .ref (o 0)), (1, .int v1), (2, .int v2), (3, .int v3)] []
  | 78, [v1, v2, v3] => G S 78 [(0, .ref (o 0)), (1, .int v1), (2, .int v2), (3, .int v3)] []
  | 148, [v1, v2, v3, v4] => G S 148 [(0, .ref (o 0)), (1, .int v1), (2, .int v2), (3, .int v3), (4, .int v4)] []
  | 203, [v1, v2, v3, v4] => G S 203 [(0, .ref (o 0)), (1, .int v1), (2, .int v2), (3, .int v3), (4, .int v4)] []
  | 230, [v1, v2, v3, v4] => G S 230 [(0, .ref (o 0)), (1, .int v1), (2, .int v2), (3, .int v3), (4, .int v4)] []
  | 242, [v1, v2, v3, v4, v5] => G S 242 [(0, .ref (o 0)), (1, .int v1), (2, .int v2), (3, .int v3), (4, .int v4), (5, .int v5)] []
  | _, _ => True
set_option maxHeartbeats 4000000 in
set_option maxRecDepth 100000 in
theorem wk_M_gather_0 {l : Launch} {dC : Nat → ClassId} {dI : Nat → Nat → Nat} {cI cZ : ClassId} {o : Nat → Nat}  {p : Program} {e : Env} {s : State} {m : MethodId} {args : Array Value} {below : List Frame} {meth : Method} {c : Code} {A : Nat → Prop} {post : Int32 → GS → Prop} (C : GC p s m args c cM_gather 6 RM wsA (dC, dI) gx_cl [(cI, .int), (cZ, .boolean)] A) (hr : meth.sig.returnType = (some .int)) (hlocks : meth.locks = false) (S : GS) (v1 : Int32) (hs : sp_M_gather post (vh_M_gather o (GV p l e ({ frames := 3, cells := 0, slots := 0, locals := 66 }) s m args below meth c (MQ below (va_Qi post (GB (mw cI cZ o) (dC, dI) gx_cl [(cI, .int), (cZ, .boolean)] A) A) args s 0 0 A) 6 (dC, dI) gx_cl A (mw cI cZ o))) 0 S [v1]) : GV p l e ({ frames := 3, cells := 0, slots := 0, locals := 66 }) s m args below meth c (MQ below (va_Qi post (GB (mw cI cZ o) (dC, dI) gx_cl [(cI, .int), (cZ, .boolean)] A) A) args s 0 0 A) 6 (dC, dI) gx_cl A (mw cI cZ o) S 0 [(0, .ref (o 0)), (1, .int v1)] [] := by
  refine gx_iconst (v := 1) C dM_gather_0 (by decide) ?_
  refine gx_top (fun y1 ey1 => ?_)
  replace hs := hs y1 ey1
  refine gx_istore_n (L' := [(2, .int y1), (0, .ref (o 0)), (1, .int v1)]) C dM_gather_1 rfl (by decide) rfl ?_
  exact gx_sub [1, 2, 0] rfl hs
set_option maxHeartbeats 4000000 in
set_option maxRecDepth 100000 in
theorem wk_M_gather_2 {l : Launch} {dC : Nat → ClassId} {dI : Nat → Nat → Nat} {cI cZ : ClassId} {o : Nat → Nat}  {p : Program} {e : Env} {s : State} {m : MethodId} {args : Array Value} {below : List Frame} {meth : Method} {c : Code} {A : Nat → Prop} {post : Int32 → GS → Prop} (C : GC p s m args c cM_gather 6 RM wsA (dC, dI) gx_cl [(cI, .int), (cZ, .boolean)] A) (hr : meth.sig.returnType = (some .int)) (hlocks : meth.locks = false) (S : GS) (v1 : Int32) (v2 : Int32) (hs : sp_M_gather post (vh_M_gather o (GV p l e ({ frames := 3, cells := 0, slots := 0, locals := 66 }) s m args below meth c (MQ below (va_Qi post (GB (mw cI cZ o) (dC, dI) gx_cl [(cI, .int), (cZ, .boolean)] A) A) args s 0 0 A) 6 (dC, dI) gx_cl A (mw cI cZ o))) 2 S [v1, v2]) : GV p l e ({ frames := 3, cells := 0, slots := 0, locals := 66 }) s m args below meth c (MQ below (va_Qi post (GB (mw cI cZ o) (dC, dI) gx_cl [(cI, .int), (cZ, .boolean)] A) A) args s 0 0 A) 6 (dC, dI) gx_cl A (mw cI cZ o) S 2 [(0, .ref (o 0)), (1, .int v1), (2, .int v2)] [] := by
  refine gx_iload_n C dM_gather_2 2 rfl rfl ?_
  refine gx_aload_n C dM_gather_3 0 rfl rfl ?_
  refine gx_get C mo_this hi_M 2 (by decide) fl_M_51 rfl dM_gather_4 ?_
  obtain ⟨ht, hf⟩ := hs
  refine gx_icmp_gt C dM_gather_7 23 rfl (fun hc => ?_) (fun hc => ?_)
  · have hs := ht hc
    refine gx_aload_n C dM_gather_23 0 rfl rfl ?_
    refine gx_iload_n C dM_gather_24 1 rfl rfl ?_
    refine gx_calli (As := [.int v1]) (rest := []) C (mt_M_reach l dC dI cI cZ o  _ _ _ hs) (gx_cwV C 1 ln_M_101 im_M_reach se_M_reach in_CountedObjectsModel cd_M_reach rfl rfl (by decide +kernel) ⟨Nat.le_of_ble_eq_true rfl, Nat.le_of_ble_eq_true rfl⟩) mo_this rfl (Nat.le_of_ble_eq_true rfl) dM_gather_25 (fun S1 => mw_ad _ S1) rfl (fun r2 S1 hs => ?_)
    refine gx_istore_n (L' := [(2, .int r2), (0, .ref (o 0)), (1, .int v1)]) C dM_gather_28 rfl (by decide) rfl ?_
    refine gx_iconst (v := 0) C dM_gather_29 (by decide) ?_
    refine gx_top (fun y3 ey3 => ?_)
    replace hs := hs y3 ey3
    refine gx_istore_n (L' := [(3, .int y3), (2, .int r2), (0, .ref (o 0)), (1, .int v1)]) C dM_gather_30 rfl (by decide) rfl ?_
    exact gx_sub [2, 3, 1, 0] rfl hs
  · have hs := hf hc
    refine gx_aload_n C dM_gather_10 0 rfl rfl ?_
    refine gx_get C mo_this hi_M 17 (by decide) fl_M_44 rfl dM_gather_11 ?_
    refine gx_iload_n C dM_gather_14 2 rfl rfl ?_
    refine gx_iconst (v := 0) C dM_gather_15 (by decide) ?_
    obtain ⟨hin, hs⟩ := hs
    refine gx_zast C ma_reached hin (by decide) dM_gather_16 (fun S4 eS4 => ?_)
    replace hs := hs S4 eS4
    refine gx_iinc (v0 := 1) (f := fun v => [(2, .int v), (0, .ref (o 0)), (1, .int v1)]) C dM_gather_17 2 rfl (by decide) (by decide) (fun _ => rfl) (fun y5 ey5 => ?_)
    replace hs := hs y5 ey5
    refine gx_goto C dM_gather_20 2 rfl ?_
    exact gx_sub [1, 2, 0] rfl hs
set_option maxHeartbeats 4000000 in
set_option maxRecDepth 100000 in
theorem wk_M_gather_31 {l : Launch} {dC : Nat → ClassId} {dI : Nat → Nat → Nat} {cI cZ : ClassId} {o : Nat → Nat}  {p : Program} {e : Env} {s : State} {m : MethodId} {args : Array Value} {below : List Frame} {meth : Method} {c : Code} {A : Nat → Prop} {post : Int32 → GS → Prop} (C : GC p s m args c cM_gather 6 RM wsA (dC, dI) gx_cl [(cI, .int), (cZ, .boolean)] A) (hr : meth.sig.returnType = (some .int)) (hlocks : meth.locks = false) (S : GS) (v1 : Int32) (v2 : Int32) (v3 : Int32) (hs : sp_M_gather post (vh_M_gather o (GV p l e ({ frames := 3, cells := 0, slots := 0, locals := 66 }) s m args below meth c (MQ below (va_Qi post (GB (mw cI cZ o) (dC, dI) gx_cl [(cI, .int), (cZ, .boolean)] A) A) args s 0 0 A) 6 (dC, dI) gx_cl A (mw cI cZ o))) 31 S [v1, v2, v3]) : GV p l e ({ frames := 3, cells := 0, slots := 0, locals := 66 }) s m args below meth c (MQ below (va_Qi post (GB (mw cI cZ o) (dC, dI) gx_cl [(cI, .int), (cZ, .boolean)] A) A) args s 0 0 A) 6 (dC, dI) gx_cl A (mw cI cZ o) S 31 [(0, .ref (o 0)), (1, .int v1), (2, .int v2), (3, .int v3)] [] := by
  refine gx_iload_n C dM_gather_31 3 rfl rfl ?_
  refine gx_bipush (v := 8) C dM_gather_32 (by decide) ?_
  obtain ⟨ht, hf⟩ := hs
  refine gx_icmp_ge C dM_gather_34 70 rfl (fun hc => ?_) (fun hc => ?_)
  · have hs := ht hc
    exact hs
  · have hs := hf hc
    refine gx_aload_n C dM_gather_37 0 rfl rfl ?_
    refine gx_aload_n C dM_gather_38 0 rfl rfl ?_
    refine gx_get C mo_this hi_M 3 (by decide) fl_M_7 rfl dM_gather_39 ?_
    refine gx_iload_n C dM_gather_42 3 rfl rfl ?_
    obtain ⟨hin, hs⟩ := hs
    refine gx_iald C ma_registers hin dM_gather_43 ?_
    refine gx_calli (As := [.int (S 0 (v3).toNatClampNeg)]) (rest := []) C (mt_M_reach l dC dI cI cZ o  _ _ _ hs) (gx_cwV C 1 ln_M_101 im_M_reach se_M_reach in_CountedObjectsModel cd_M_reach rfl rfl (by decide +kernel) ⟨Nat.le_of_ble_eq_true rfl, Nat.le_of_ble_eq_true rfl⟩) mo_this rfl (Nat.le_of_ble_eq_true rfl) dM_gather_44 (fun S1 => mw_ad _ S1) rfl (fun r2 S1 hs => ?_)
    refine gx_istore (L' := [(4, .int r2), (0, .ref (o 0)), (1, .int v1), (2, .int v2), (3, .int v3)]) C dM_gather_47 (by decide) rfl ?_
    refine gx_iload_n C dM_gather_49 3 rfl rfl ?_
    obtain ⟨ht, hf⟩ := hs
    refine gx_if_ne C dM_gather_50 58 rfl (fun hc => ?_) (fun hc => ?_)
    · have hs := ht hc
      refine gx_iconst (v := 1) C dM_gather_58 (by decide) ?_
      refine gx_goto C dM_gather_59 63 rfl ?_
      refine gx_top (fun y3 ey3 => ?_)
      replace hs := hs y3 ey3
      refine gx_istore_n (L' := [(2, .int y3), (4, .int r2), (0, .ref (o 0)), (1, .int v1), (3, .int v3)]) C dM_gather_63 rfl (by decide) rfl ?_
      refine gx_iinc (v0 := 1) (f := fun v => [(3, .int v), (2, .int y3), (4, .int r2), (0, .ref (o 0)), (1, .int v1)]) C dM_gather_64 4 rfl (by decide) (by decide) (fun _ => rfl) (fun y4 ey4 => ?_)
      replace hs := hs y4 ey4
      refine gx_goto C dM_gather_67 31 rfl ?_
      exact gx_sub [3, 4, 1, 0] rfl hs
    · have hs := hf hc
      refine gx_iload C dM_gather_53 0 rfl ?_
      obtain ⟨ht, hf⟩ := hs
      refine gx_if_eq C dM_gather_55 62 rfl (fun hc => ?_) (fun hc => ?_)
      · have hs := ht hc
        refine gx_iconst (v := 0) C dM_gather_62 (by decide) ?_
        refine gx_top (fun y5 ey5 => ?_)
        replace hs := hs y5 ey5
        refine gx_istore_n (L' := [(2, .int y5), (4, .int r2), (0, .ref (o 0)), (1, .int v1), (3, .int v3)]) C dM_gather_63 rfl (by decide) rfl ?_
        refine gx_iinc (v0 := 1) (f := fun v => [(3, .int v), (2, .int y5), (4, .int r2), (0, .ref (o 0)), (1, .int v1)]) C dM_gather_64 4 rfl (by decide) (by decide) (fun _ => rfl) (fun y6 ey6 => ?_)
        replace hs := hs y6 ey6
        refine gx_goto C dM_gather_67 31 rfl ?_
        exact gx_sub [3, 4, 1, 0] rfl hs
      · have hs := hf hc
        refine gx_iconst (v := 1) C dM_gather_58 (by decide) ?_
        refine gx_goto C dM_gather_59 63 rfl ?_
        refine gx_top (fun y7 ey7 => ?_)
        replace hs := hs y7 ey7
        refine gx_istore_n (L' := [(2, .int y7), (4, .int r2), (0, .ref (o 0)), (1, .int v1), (3, .int v3)]) C dM_gather_63 rfl (by decide) rfl ?_
        refine gx_iinc (v0 := 1) (f := fun v => [(3, .int v), (2, .int y7), (4, .int r2), (0, .ref (o 0)), (1, .int v1)]) C dM_gather_64 4 rfl (by decide) (by decide) (fun _ => rfl) (fun y8 ey8 => ?_)
        replace hs := hs y8 ey8
        refine gx_goto C dM_gather_67 31 rfl ?_
        exact gx_sub [3, 4, 1, 0] rfl hs
set_option maxHeartbeats 4000000 in
set_option maxRecDepth 100000 in
theorem wk_M_gather_70 {l : Launch} {dC : Nat → ClassId} {dI : Nat → Nat → Nat} {cI cZ : ClassId} {o : Nat → Nat}  {p : Program} {e : Env} {s : State} {m : MethodId} {args : Array Value} {below : List Frame} {meth : Method} {c : Code} {A : Nat → Prop} {post : Int32 → GS → Prop} (C : GC p s m args c cM_gather 6 RM wsA (dC, dI) gx_cl [(cI, .int), (cZ, .boolean)] A) (hr : meth.sig.returnType = (some .int)) (hlocks : meth.locks = false) (S : GS) (v1 : Int32) (v2 : Int32) (v3 : Int32) (hs : sp_M_gather post (vh_M_gather o (GV p l e ({ frames := 3, cells := 0, slots := 0, locals := 66 }) s m args below meth c (MQ below (va_Qi post (GB (mw cI cZ o) (dC, dI) gx_cl [(cI, .int), (cZ, .boolean)] A) A) args s 0 0 A) 6 (dC, dI) gx_cl A (mw cI cZ o))) 70 S [v1, v2, v3]) : GV p l e ({ frames := 3, cells := 0, slots := 0, locals := 66 }) s m args below meth c (MQ below (va_Qi post (GB (mw cI cZ o) (dC, dI) gx_cl [(cI, .int), (cZ, .boolean)] A) A) args s 0 0 A) 6 (dC, dI) gx_cl A (mw cI cZ o) S 70 [(0, .ref (o 0)), (1, .int v1), (2, .int v2), (3, .int v3)] [] := by
  refine gx_iload_n C dM_gather_70 2 rfl rfl ?_
  obtain ⟨ht, hf⟩ := hs
  refine gx_if_eq C dM_gather_71 143 rfl (fun hc => ?_) (fun hc => ?_)
  · have hs := ht hc
    refine gx_iconst (v := 0) C dM_gather_143 (by decide) ?_
    refine gx_top (fun y1 ey1 => ?_)
    replace hs := hs y1 ey1
    refine gx_istore_n (L' := [(3, .int y1), (0, .ref (o 0)), (1, .int v1), (2, .int v2)]) C dM_gather_144 rfl (by decide) rfl ?_
    refine gx_iconst (v := 1) C dM_gather_145 (by decide) ?_
    refine gx_top (fun y2 ey2 => ?_)
    replace hs := hs y2 ey2
    refine gx_istore (L' := [(4, .int y2), (3, .int y1), (0, .ref (o 0)), (1, .int v1), (2, .int v2)]) C dM_gather_146 (by decide) rfl ?_
    exact gx_sub [2, 3, 4, 1, 0] rfl hs
  · have hs := hf hc
    refine gx_iconst (v := 0) C dM_gather_74 (by decide) ?_
    refine gx_top (fun y3 ey3 => ?_)
    replace hs := hs y3 ey3
    refine gx_istore_n (L' := [(2, .int y3), (0, .ref (o 0)), (1, .int v1), (3, .int v3)]) C dM_gather_75 rfl (by decide) rfl ?_
    refine gx_iconst (v := 1) C dM_gather_76 (by decide) ?_
    refine gx_top (fun y4 ey4 => ?_)
    replace hs := hs y4 ey4
    refine gx_istore_n (L' := [(3, .int y4), (2, .int y3), (0, .ref (o 0)), (1, .int v1)]) C dM_gather_77 rfl (by decide) rfl ?_
    exact gx_sub [2, 3, 1, 0] rfl hs
set_option maxHeartbeats 4000000 in
set_option maxRecDepth 100000 in
theorem wk_M_gather_78 {l : Launch} {dC : Nat → ClassId} {dI : Nat → Nat → Nat} {cI cZ : ClassId} {o : Nat → Nat}  {p : Program} {e : Env} {s : State} {m : MethodId} {args : Array Value} {below : List Frame} {meth : Method} {c : Code} {A : Nat → Prop} {post : Int32 → GS → Prop} (C : GC p s m args c cM_gather 6 RM wsA (dC, dI) gx_cl [(cI, .int), (cZ, .boolean)] A) (hr : meth.sig.returnType = (some .int)) (hlocks : meth.locks = false) (S : GS) (v1 : Int32) (v2 : Int32) (v3 : Int32) (hs : sp_M_gather post (vh_M_gather o (GV p l e ({ frames := 3, cells := 0, slots := 0, locals := 66 }) s m args below meth c (MQ below (va_Qi post (GB (mw cI cZ o) (dC, dI) gx_cl [(cI, .int), (cZ, .boolean)] A) A) args s 0 0 A) 6 (dC, dI) gx_cl A (mw cI cZ o))) 78 S [v1, v2, v3]) : GV p l e ({ frames := 3, cells := 0, slots := 0, locals := 66 }) s m args below meth c (MQ below (va_Qi post (GB (mw cI cZ o) (dC, dI) gx_cl [(cI, .int), (cZ, .boolean)] A) A) args s 0 0 A) 6 (dC, dI) gx_cl A (mw cI cZ o) S 78 [(0, .ref (o 0)), (1, .int v1), (2, .int v2), (3, .int v3)] [] := by
  refine gx_iload_n C dM_gather_78 3 rfl rfl ?_
  refine gx_aload_n C dM_gather_79 0 rfl rfl ?_
  refine gx_get C mo_this hi_M 2 (by decide) fl_M_51 rfl dM_gather_80 ?_
  obtain ⟨ht, hf⟩ := hs
  refine gx_icmp_gt C dM_gather_83 140 rfl (fun hc => ?_) (fun hc => ?_)
  · have hs := ht hc
    refine gx_goto C dM_gather_140 70 rfl ?_
    exact hs
  · have hs := hf hc
    refine gx_aload_n C dM_gather_86 0 rfl rfl ?_
    refine gx_get C mo_this hi_M 4 (by decide) fl_M_13 rfl dM_gather_87 ?_
    refine gx_iload_n C dM_gather_90 3 rfl rfl ?_
    obtain ⟨hin, hs⟩ := hs
    refine gx_zald C ma_lives hin dM_gather_91 ?_
    obtain ⟨ht, hf⟩ := hs
    refine gx_if_eq C dM_gather_92 116 rfl (fun hc => ?_) (fun hc => ?_)
    · have hs := ht hc
      refine gx_iconst (v := 0) C dM_gather_116 (by decide) ?_
      refine gx_top (fun y1 ey1 => ?_)
      replace hs := hs y1 ey1
      refine gx_istore (L' := [(4, .int y1), (0, .ref (o 0)), (1, .int v1), (2, .int v2), (3, .int v3)]) C dM_gather_117 (by decide) rfl ?_
      refine gx_iload_n C dM_gather_119 3 rfl rfl ?_
      obtain ⟨ht, hf⟩ := hs
      refine gx_if_ne C dM_gather_120 128 rfl (fun hc => ?_) (fun hc => ?_)
      · have hs := ht hc
        refine gx_iconst (v := 1) C dM_gather_128 (by decide) ?_
        refine gx_goto C dM_gather_129 133 rfl ?_
        refine gx_top (fun y2 ey2 => ?_)
        replace hs := hs y2 ey2
        refine gx_istore_n (L' := [(2, .int y2), (4, .int y1), (0, .ref (o 0)), (1, .int v1), (3, .int v3)]) C dM_gather_133 rfl (by decide) rfl ?_
        refine gx_iinc (v0 := 1) (f := fun v => [(3, .int v), (2, .int y2), (4, .int y1), (0, .ref (o 0)), (1, .int v1)]) C dM_gather_134 4 rfl (by decide) (by decide) (fun _ => rfl) (fun y3 ey3 => ?_)
        replace hs := hs y3 ey3
        refine gx_goto C dM_gather_137 78 rfl ?_
        exact gx_sub [3, 4, 1, 0] rfl hs
      · have hs := hf hc
        refine gx_iload C dM_gather_123 0 rfl ?_
        obtain ⟨ht, hf⟩ := hs
        refine gx_if_eq C dM_gather_125 132 rfl (fun hc => ?_) (fun hc => ?_)
        · have hs := ht hc
          refine gx_iconst (v := 0) C dM_gather_132 (by decide) ?_
          refine gx_top (fun y4 ey4 => ?_)
          replace hs := hs y4 ey4
          refine gx_istore_n (L' := [(2, .int y4), (4, .int y1), (0, .ref (o 0)), (1, .int v1), (3, .int v3)]) C dM_gather_133 rfl (by decide) rfl ?_
          refine gx_iinc (v0 := 1) (f := fun v => [(3, .int v), (2, .int y4), (4, .int y1), (0, .ref (o 0)), (1, .int v1)]) C dM_gather_134 4 rfl (by decide) (by decide) (fun _ => rfl) (fun y5 ey5 => ?_)
          replace hs := hs y5 ey5
          refine gx_goto C dM_gather_137 78 rfl ?_
          exact gx_sub [3, 4, 1, 0] rfl hs
        · have hs := hf hc
          refine gx_iconst (v := 1) C dM_gather_128 (by decide) ?_
          refine gx_goto C dM_gather_129 133 rfl ?_
          refine gx_top (fun y6 ey6 => ?_)
          replace hs := hs y6 ey6
          refine gx_istore_n (L' := [(2, .int y6), (4, .int y1), (0, .ref (o 0)), (1, .int v1), (3, .int v3)]) C dM_gather_133 rfl (by decide) rfl ?_
          refine gx_iinc (v0 := 1) (f := fun v => [(3, .int v), (2, .int y6), (4, .int y1), (0, .ref (o 0)), (1, .int v1)]) C dM_gather_134 4 rfl (by decide) (by decide) (fun _ => rfl) (fun y7 ey7 => ?_)
          replace hs := hs y7 ey7
          refine gx_goto C dM_gather_137 78 rfl ?_
          exact gx_sub [3, 4, 1, 0] rfl hs
    · have hs := hf hc
      refine gx_aload_n C dM_gather_95 0 rfl rfl ?_
      refine gx_get C mo_this hi_M 17 (by decide) fl_M_44 rfl dM_gather_96 ?_
      refine gx_iload_n C dM_gather_99 3 rfl rfl ?_
      obtain ⟨hin, hs⟩ := hs
      refine gx_zald C ma_reached hin dM_gather_100 ?_
      obtain ⟨ht, hf⟩ := hs
      refine gx_if_eq C dM_gather_101 116 rfl (fun hc => ?_) (fun hc => ?_)
      · have hs := ht hc
        refine gx_iconst (v := 0) C dM_gather_116 (by decide) ?_
        refine gx_top (fun y8 ey8 => ?_)
        replace hs := hs y8 ey8
        refine gx_istore (L' := [(4, .int y8), (0, .ref (o 0)), (1, .int v1), (2, .int v2), (3, .int v3)]) C dM_gather_117 (by decide) rfl ?_
        refine gx_iload_n C dM_gather_119 3 rfl rfl ?_
        obtain ⟨ht, hf⟩ := hs
        refine gx_if_ne C dM_gather_120 128 rfl (fun hc => ?_) (fun hc => ?_)
        · have hs := ht hc
          refine gx_iconst (v := 1) C dM_gather_128 (by decide) ?_
          refine gx_goto C dM_gather_129 133 rfl ?_
          refine gx_top (fun y9 ey9 => ?_)
          replace hs := hs y9 ey9
          refine gx_istore_n (L' := [(2, .int y9), (4, .int y8), (0, .ref (o 0)), (1, .int v1), (3, .int v3)]) C dM_gather_133 rfl (by decide) rfl ?_
          refine gx_iinc (v0 := 1) (f := fun v => [(3, .int v), (2, .int y9), (4, .int y8), (0, .ref (o 0)), (1, .int v1)]) C dM_gather_134 4 rfl (by decide) (by decide) (fun _ => rfl) (fun y10 ey10 => ?_)
          replace hs := hs y10 ey10
          refine gx_goto C dM_gather_137 78 rfl ?_
          exact gx_sub [3, 4, 1, 0] rfl hs
        · have hs := hf hc
          refine gx_iload C dM_gather_123 0 rfl ?_
          obtain ⟨ht, hf⟩ := hs
          refine gx_if_eq C dM_gather_125 132 rfl (fun hc => ?_) (fun hc => ?_)
          · have hs := ht hc
            refine gx_iconst (v := 0) C dM_gather_132 (by decide) ?_
            refine gx_top (fun y11 ey11 => ?_)
            replace hs := hs y11 ey11
            refine gx_istore_n (L' := [(2, .int y11), (4, .int y8), (0, .ref (o 0)), (1, .int v1), (3, .int v3)]) C dM_gather_133 rfl (by decide) rfl ?_
            refine gx_iinc (v0 := 1) (f := fun v => [(3, .int v), (2, .int y11), (4, .int y8), (0, .ref (o 0)), (1, .int v1)]) C dM_gather_134 4 rfl (by decide) (by decide) (fun _ => rfl) (fun y12 ey12 => ?_)
            replace hs := hs y12 ey12
            refine gx_goto C dM_gather_137 78 rfl ?_
            exact gx_sub [3, 4, 1, 0] rfl hs
          · have hs := hf hc
            refine gx_iconst (v := 1) C dM_gather_128 (by decide) ?_
            refine gx_goto C dM_gather_129 133 rfl ?_
            refine gx_top (fun y13 ey13 => ?_)
            replace hs := hs y13 ey13
            refine gx_istore_n (L' := [(2, .int y13), (4, .int y8), (0, .ref (o 0)), (1, .int v1), (3, .int v3)]) C dM_gather_133 rfl (by decide) rfl ?_
            refine gx_iinc (v0 := 1) (f := fun v => [(3, .int v), (2, .int y13), (4, .int y8), (0, .ref (o 0)), (1, .int v1)]) C dM_gather_134 4 rfl (by decide) (by decide) (fun _ => rfl) (fun y14 ey14 => ?_)
            replace hs := hs y14 ey14
            refine gx_goto C dM_gather_137 78 rfl ?_
            exact gx_sub [3, 4, 1, 0] rfl hs
      · have hs := hf hc
        refine gx_aload_n C dM_gather_104 0 rfl rfl ?_
        refine gx_iload_n C dM_gather_105 3 rfl rfl ?_
        refine gx_calli (As := [.int v3]) (rest := []) C (mt_M_spread l dC dI cI cZ o  _ _ _ hs) (gx_cwV C 1 ln_M_104 im_M_spread se_M_spread in_CountedObjectsModel cd_M_spread rfl rfl (by decide +kernel) ⟨Nat.le_of_ble_eq_true rfl, Nat.le_of_ble_eq_true rfl⟩) mo_this rfl (Nat.le_of_ble_eq_true rfl) dM_gather_106 (fun S1 => mw_ad _ S1) rfl (fun r16 S15 hs => ?_)
        obtain ⟨ht, hf⟩ := hs
        refine gx_if_eq C dM_gather_109 116 rfl (fun hc => ?_) (fun hc => ?_)
        · have hs := ht hc
          refine gx_iconst (v := 0) C dM_gather_116 (by decide) ?_
          refine gx_top (fun y17 ey17 => ?_)
          replace hs := hs y17 ey17
          refine gx_istore (L' := [(4, .int y17), (0, .ref (o 0)), (1, .int v1), (2, .int v2), (3, .int v3)]) C dM_gather_117 (by decide) rfl ?_
          refine gx_iload_n C dM_gather_119 3 rfl rfl ?_
          obtain ⟨ht, hf⟩ := hs
          refine gx_if_ne C dM_gather_120 128 rfl (fun hc => ?_) (fun hc => ?_)
          · have hs := ht hc
            refine gx_iconst (v := 1) C dM_gather_128 (by decide) ?_
            refine gx_goto C dM_gather_129 133 rfl ?_
            refine gx_top (fun y18 ey18 => ?_)
            replace hs := hs y18 ey18
            refine gx_istore_n (L' := [(2, .int y18), (4, .int y17), (0, .ref (o 0)), (1, .int v1), (3, .int v3)]) C dM_gather_133 rfl (by decide) rfl ?_
            refine gx_iinc (v0 := 1) (f := fun v => [(3, .int v), (2, .int y18), (4, .int y17), (0, .ref (o 0)), (1, .int v1)]) C dM_gather_134 4 rfl (by decide) (by decide) (fun _ => rfl) (fun y19 ey19 => ?_)
            replace hs := hs y19 ey19
            refine gx_goto C dM_gather_137 78 rfl ?_
            exact gx_sub [3, 4, 1, 0] rfl hs
          · have hs := hf hc
            refine gx_iload C dM_gather_123 0 rfl ?_
            obtain ⟨ht, hf⟩ := hs
            refine gx_if_eq C dM_gather_125 132 rfl (fun hc => ?_) (fun hc => ?_)
            · have hs := ht hc
              refine gx_iconst (v := 0) C dM_gather_132 (by decide) ?_
              refine gx_top (fun y20 ey20 => ?_)
              replace hs := hs y20 ey20
              refine gx_istore_n (L' := [(2, .int y20), (4, .int y17), (0, .ref (o 0)), (1, .int v1), (3, .int v3)]) C dM_gather_133 rfl (by decide) rfl ?_
              refine gx_iinc (v0 := 1) (f := fun v => [(3, .int v), (2, .int y20), (4, .int y17), (0, .ref (o 0)), (1, .int v1)]) C dM_gather_134 4 rfl (by decide) (by decide) (fun _ => rfl) (fun y21 ey21 => ?_)
              replace hs := hs y21 ey21
              refine gx_goto C dM_gather_137 78 rfl ?_
              exact gx_sub [3, 4, 1, 0] rfl hs
            · have hs := hf hc
              refine gx_iconst (v := 1) C dM_gather_128 (by decide) ?_
              refine gx_goto C dM_gather_129 133 rfl ?_
              refine gx_top (fun y22 ey22 => ?_)
              replace hs := hs y22 ey22
              refine gx_istore_n (L' := [(2, .int y22), (4, .int y17), (0, .ref (o 0)), (1, .int v1), (3, .int v3)]) C dM_gather_133 rfl (by decide) rfl ?_
              refine gx_iinc (v0 := 1) (f := fun v => [(3, .int v), (2, .int y22), (4, .int y17), (0, .ref (o 0)), (1, .int v1)]) C dM_gather_134 4 rfl (by decide) (by decide) (fun _ => rfl) (fun y23 ey23 => ?_)
              replace hs := hs y23 ey23
              refine gx_goto C dM_gather_137 78 rfl ?_
              exact gx_sub [3, 4, 1, 0] rfl hs
        · have hs := hf hc
          refine gx_iconst (v := 1) C dM_gather_112 (by decide) ?_
          refine gx_goto C dM_gather_113 117 rfl ?_
          refine gx_top (fun y24 ey24 => ?_)
          replace hs := hs y24 ey24
          refine gx_istore (L' := [(4, .int y24), (0, .ref (o 0)), (1, .int v1), (2, .int v2), (3, .int v3)]) C dM_gather_117 (by decide) rfl ?_
          refine gx_iload_n C dM_gather_119 3 rfl rfl ?_
          obtain ⟨ht, hf⟩ := hs
          refine gx_if_ne C dM_gather_120 128 rfl (fun hc => ?_) (fun hc => ?_)
          · have hs := ht hc
            refine gx_iconst (v := 1) C dM_gather_128 (by decide) ?_
            refine gx_goto C dM_gather_129 133 rfl ?_
            refine gx_top (fun y25 ey25 => ?_)
            replace hs := hs y25 ey25
            refine gx_istore_n (L' := [(2, .int y25), (4, .int y24), (0, .ref (o 0)), (1, .int v1), (3, .int v3)]) C dM_gather_133 rfl (by decide) rfl ?_
            refine gx_iinc (v0 := 1) (f := fun v => [(3, .int v), (2, .int y25), (4, .int y24), (0, .ref (o 0)), (1, .int v1)]) C dM_gather_134 4 rfl (by decide) (by decide) (fun _ => rfl) (fun y26 ey26 => ?_)
            replace hs := hs y26 ey26
            refine gx_goto C dM_gather_137 78 rfl ?_
            exact gx_sub [3, 4, 1, 0] rfl hs
          · have hs := hf hc
            refine gx_iload C dM_gather_123 0 rfl ?_
            obtain ⟨ht, hf⟩ := hs
            refine gx_if_eq C dM_gather_125 132 rfl (fun hc => ?_) (fun hc => ?_)
            · have hs := ht hc
              refine gx_iconst (v := 0) C dM_gather_132 (by decide) ?_
              refine gx_top (fun y27 ey27 => ?_)
              replace hs := hs y27 ey27
              refine gx_istore_n (L' := [(2, .int y27), (4, .int y24), (0, .ref (o 0)), (1, .int v1), (3, .int v3)]) C dM_gather_133 rfl (by decide) rfl ?_
              refine gx_iinc (v0 := 1) (f := fun v => [(3, .int v), (2, .int y27), (4, .int y24), (0, .ref (o 0)), (1, .int v1)]) C dM_gather_134 4 rfl (by decide) (by decide) (fun _ => rfl) (fun y28 ey28 => ?_)
              replace hs := hs y28 ey28
              refine gx_goto C dM_gather_137 78 rfl ?_
              exact gx_sub [3, 4, 1, 0] rfl hs
            · have hs := hf hc
              refine gx_iconst (v := 1) C dM_gather_128 (by decide) ?_
              refine gx_goto C dM_gather_129 133 rfl ?_
              refine gx_top (fun y29 ey29 => ?_)
              replace hs := hs y29 ey29
              refine gx_istore_n (L' := [(2, .int y29), (4, .int y24), (0, .ref (o 0)), (1, .int v1), (3, .int v3)]) C dM_gather_133 rfl (by decide) rfl ?_
              refine gx_iinc (v0 := 1) (f := fun v => [(3, .int v), (2, .int y29), (4, .int y24), (0, .ref (o 0)), (1, .int v1)]) C dM_gather_134 4 rfl (by decide) (by decide) (fun _ => rfl) (fun y30 ey30 => ?_)
              replace hs := hs y30 ey30
              refine gx_goto C dM_gather_137 78 rfl ?_
              exact gx_sub [3, 4, 1, 0] rfl hs
set_option maxHeartbeats 4000000 in
set_option maxRecDepth 100000 in
theorem wk_M_gather_148 {l : Launch} {dC : Nat → ClassId} {dI : Nat → Nat → Nat} {cI cZ : ClassId} {o : Nat → Nat}  {p : Program} {e : Env} {s : State} {m : MethodId} {args : Array Value} {below : List Frame} {meth : Method} {c : Code} {A : Nat → Prop} {post : Int32 → GS → Prop} (C : GC p s m args c cM_gather 6 RM wsA (dC, dI) gx_cl [(cI, .int), (cZ, .boolean)] A) (hr : meth.sig.returnType = (some .int)) (hlocks : meth.locks = false) (S : GS) (v1 : Int32) (v2 : Int32) (v3 : Int32) (v4 : Int32) (hs : sp_M_gather post (vh_M_gather o (GV p l e ({ frames := 3, cells := 0, slots := 0, locals := 66 }) s m args below meth c (MQ below (va_Qi post (GB (mw cI cZ o) (dC, dI) gx_cl [(cI, .int), (cZ, .boolean)] A) A) args s 0 0 A) 6 (dC, dI) gx_cl A (mw cI cZ o))) 148 S [v1, v2, v3, v4]) : GV p l e ({ frames := 3, cells := 0, slots := 0, locals := 66 }) s m args below meth c (MQ below (va_Qi post (GB (mw cI cZ o) (dC, dI) gx_cl [(cI, .int), (cZ, .boolean)] A) A) args s 0 0 A) 6 (dC, dI) gx_cl A (mw cI cZ o) S 148 [(0, .ref (o 0)), (1, .int v1), (2, .int v2), (3, .int v3), (4, .int v4)] [] := by
  refine gx_iload C dM_gather_148 4 rfl ?_
  refine gx_aload_n C dM_gather_150 0 rfl rfl ?_
  refine gx_get C mo_this hi_M 2 (by decide) fl_M_51 rfl dM_gather_151 ?_
  obtain ⟨ht, hf⟩ := hs
  refine gx_icmp_gt C dM_gather_154 200 rfl (fun hc => ?_) (fun hc => ?_)
  · have hs := ht hc
    refine gx_iconst (v := 0) C dM_gather_200 (by decide) ?_
    refine gx_top (fun y1 ey1 => ?_)
    replace hs := hs y1 ey1
    refine gx_istore (L' := [(4, .int y1), (0, .ref (o 0)), (1, .int v1), (2, .int v2), (3, .int v3)]) C dM_gather_201 (by decide) rfl ?_
    exact gx_sub [1, 2, 3, 4, 0] rfl hs
  · have hs := hf hc
    refine gx_aload_n C dM_gather_157 0 rfl rfl ?_
    refine gx_get C mo_this hi_M 7 (by decide) fl_M_23 rfl dM_gather_158 ?_
    refine gx_iload C dM_gather_161 4 rfl ?_
    refine gx_iconst (v := 0) C dM_gather_163 (by decide) ?_
    obtain ⟨hin, hs⟩ := hs
    refine gx_iast C ma_counts hin dM_gather_164 (fun S2 eS2 => ?_)
    replace hs := hs S2 eS2
    refine gx_aload_n C dM_gather_165 0 rfl rfl ?_
    refine gx_get C mo_this hi_M 4 (by decide) fl_M_13 rfl dM_gather_166 ?_
    refine gx_iload C dM_gather_169 4 rfl ?_
    obtain ⟨hin, hs⟩ := hs
    refine gx_zald C ma_lives hin dM_gather_171 ?_
    obtain ⟨ht, hf⟩ := hs
    refine gx_if_eq C dM_gather_172 194 rfl (fun hc => ?_) (fun hc => ?_)
    · have hs := ht hc
      refine gx_iinc (v0 := 1) (f := fun v => [(4, .int v), (0, .ref (o 0)), (1, .int v1), (2, .int v2), (3, .int v3)]) C dM_gather_194 4 rfl (by decide) (by decide) (fun _ => rfl) (fun y3 ey3 => ?_)
      replace hs := hs y3 ey3
      refine gx_goto C dM_gather_197 148 rfl ?_
      exact gx_sub [1, 2, 3, 4, 0] rfl hs
    · have hs := hf hc
      refine gx_aload_n C dM_gather_175 0 rfl rfl ?_
      refine gx_get C mo_this hi_M 17 (by decide) fl_M_44 rfl dM_gather_176 ?_
      refine gx_iload C dM_gather_179 4 rfl ?_
      obtain ⟨hin, hs⟩ := hs
      refine gx_zald C ma_reached hin dM_gather_181 ?_
      obtain ⟨ht, hf⟩ := hs
      refine gx_if_ne C dM_gather_182 194 rfl (fun hc => ?_) (fun hc => ?_)
      · have hs := ht hc
        refine gx_iinc (v0 := 1) (f := fun v => [(4, .int v), (0, .ref (o 0)), (1, .int v1), (2, .int v2), (3, .int v3)]) C dM_gather_194 4 rfl (by decide) (by decide) (fun _ => rfl) (fun y4 ey4 => ?_)
        replace hs := hs y4 ey4
        refine gx_goto C dM_gather_197 148 rfl ?_
        exact gx_sub [1, 2, 3, 4, 0] rfl hs
      · have hs := hf hc
        refine gx_aload_n C dM_gather_185 0 rfl rfl ?_
        refine gx_iload C dM_gather_186 4 rfl ?_
        refine gx_callv (As := [.int v4]) (rest := []) C (mt_M_takeAway l dC dI cI cZ o  _ _ _ hs) (gx_cwV C 1 ln_M_92 im_M_takeAway se_M_takeAway in_CountedObjectsModel cd_M_takeAway rfl rfl (by decide +kernel) ⟨Nat.le_of_ble_eq_true rfl, Nat.le_of_ble_eq_true rfl⟩) mo_this rfl (Nat.le_of_ble_eq_true rfl) dM_gather_188 (fun S1 => mw_ad _ S1) rfl (fun S5 hs => ?_)
        refine gx_iinc (v0 := 1) (f := fun v => [(3, .int v), (0, .ref (o 0)), (1, .int v1), (2, .int v2), (4, .int v4)]) C dM_gather_191 3 rfl (by decide) (by decide) (fun _ => rfl) (fun y7 ey7 => ?_)
        replace hs := hs y7 ey7
        refine gx_iinc (v0 := 1) (f := fun v => [(4, .int v), (3, .int y7), (0, .ref (o 0)), (1, .int v1), (2, .int v2)]) C dM_gather_194 4 rfl (by decide) (by decide) (fun _ => rfl) (fun y8 ey8 => ?_)
        replace hs := hs y8 ey8
        refine gx_goto C dM_gather_197 148 rfl ?_
        exact gx_sub [2, 3, 4, 1, 0] rfl hs
set_option maxHeartbeats 4000000 in
set_option maxRecDepth 100000 in
theorem wk_M_gather_203 {l : Launch} {dC : Nat → ClassId} {dI : Nat → Nat → Nat} {cI cZ : ClassId} {o : Nat → Nat}  {p : Program} {e : Env} {s : State} {m : MethodId} {args : Array Value} {below : List Frame} {meth : Method} {c : Code} {A : Nat → Prop} {post : Int32 → GS → Prop} (C : GC p s m args c cM_gather 6 RM wsA (dC, dI) gx_cl [(cI, .int), (cZ, .boolean)] A) (hr : meth.sig.returnType = (some .int)) (hlocks : meth.locks = false) (S : GS) (v1 : Int32) (v2 : Int32) (v3 : Int32) (v4 : Int32) (hs : sp_M_gather post (vh_M_gather o (GV p l e ({ frames := 3, cells := 0, slots := 0, locals := 66 }) s m args below meth c (MQ below (va_Qi post (GB (mw cI cZ o) (dC, dI) gx_cl [(cI, .int), (cZ, .boolean)] A) A) args s 0 0 A) 6 (dC, dI) gx_cl A (mw cI cZ o))) 203 S [v1, v2, v3, v4]) : GV p l e ({ frames := 3, cells := 0, slots := 0, locals := 66 }) s m args below meth c (MQ below (va_Qi post (GB (mw cI cZ o) (dC, dI) gx_cl [(cI, .int), (cZ, .boolean)] A) A) args s 0 0 A) 6 (dC, dI) gx_cl A (mw cI cZ o) S 203 [(0, .ref (o 0)), (1, .int v1), (2, .int v2), (3, .int v3), (4, .int v4)] [] := by
  refine gx_iload C dM_gather_203 4 rfl ?_
  refine gx_bipush (v := 8) C dM_gather_205 (by decide) ?_
  obtain ⟨ht, hf⟩ := hs
  refine gx_icmp_ge C dM_gather_207 227 rfl (fun hc => ?_) (fun hc => ?_)
  · have hs := ht hc
    refine gx_iconst (v := 1) C dM_gather_227 (by decide) ?_
    refine gx_top (fun y1 ey1 => ?_)
    replace hs := hs y1 ey1
    refine gx_istore (L' := [(4, .int y1), (0, .ref (o 0)), (1, .int v1), (2, .int v2), (3, .int v3)]) C dM_gather_228 (by decide) rfl ?_
    exact gx_sub [1, 2, 3, 4, 0] rfl hs
  · have hs := hf hc
    refine gx_aload_n C dM_gather_210 0 rfl rfl ?_
    refine gx_aload_n C dM_gather_211 0 rfl rfl ?_
    refine gx_get C mo_this hi_M 3 (by decide) fl_M_7 rfl dM_gather_212 ?_
    refine gx_iload C dM_gather_215 4 rfl ?_
    obtain ⟨hin, hs⟩ := hs
    refine gx_iald C ma_registers hin dM_gather_217 ?_
    refine gx_callv (As := [.int (S 0 (v4).toNatClampNeg)]) (rest := []) C (mt_M_comes l dC dI cI cZ o  _ _ _ hs) (gx_cwV C 1 ln_M_95 im_M_comes se_M_comes in_CountedObjectsModel cd_M_comes rfl rfl (by decide +kernel) ⟨Nat.le_of_ble_eq_true rfl, Nat.le_of_ble_eq_true rfl⟩) mo_this rfl (Nat.le_of_ble_eq_true rfl) dM_gather_218 (fun S1 => mw_ad _ S1) rfl (fun S2 hs => ?_)
    refine gx_iinc (v0 := 1) (f := fun v => [(4, .int v), (0, .ref (o 0)), (1, .int v1), (2, .int v2), (3, .int v3)]) C dM_gather_221 4 rfl (by decide) (by decide) (fun _ => rfl) (fun y4 ey4 => ?_)
    replace hs := hs y4 ey4
    refine gx_goto C dM_gather_224 203 rfl ?_
    exact gx_sub [1, 2, 3, 4, 0] rfl hs
set_option maxHeartbeats 4000000 in
set_option maxRecDepth 100000 in
theorem wk_M_gather_230 {l : Launch} {dC : Nat → ClassId} {dI : Nat → Nat → Nat} {cI cZ : ClassId} {o : Nat → Nat}  {p : Program} {e : Env} {s : State} {m : MethodId} {args : Array Value} {below : List Frame} {meth : Method} {c : Code} {A : Nat → Prop} {post : Int32 → GS → Prop} (C : GC p s m args c cM_gather 6 RM wsA (dC, dI) gx_cl [(cI, .int), (cZ, .boolean)] A) (hr : meth.sig.returnType = (some .int)) (hlocks : meth.locks = false) (S : GS) (v1 : Int32) (v2 : Int32) (v3 : Int32) (v4 : Int32) (hs : sp_M_gather post (vh_M_gather o (GV p l e ({ frames := 3, cells := 0, slots := 0, locals := 66 }) s m args below meth c (MQ below (va_Qi post (GB (mw cI cZ o) (dC, dI) gx_cl [(cI, .int), (cZ, .boolean)] A) A) args s 0 0 A) 6 (dC, dI) gx_cl A (mw cI cZ o))) 230 S [v1, v2, v3, v4]) : GV p l e ({ frames := 3, cells := 0, slots := 0, locals := 66 }) s m args below meth c (MQ below (va_Qi post (GB (mw cI cZ o) (dC, dI) gx_cl [(cI, .int), (cZ, .boolean)] A) A) args s 0 0 A) 6 (dC, dI) gx_cl A (mw cI cZ o) S 230 [(0, .ref (o 0)), (1, .int v1), (2, .int v2), (3, .int v3), (4, .int v4)] [] := by
  refine gx_iload C dM_gather_230 4 rfl ?_
  refine gx_aload_n C dM_gather_232 0 rfl rfl ?_
  refine gx_get C mo_this hi_M 2 (by decide) fl_M_51 rfl dM_gather_233 ?_
  obtain ⟨ht, hf⟩ := hs
  refine gx_icmp_gt C dM_gather_236 297 rfl (fun hc => ?_) (fun hc => ?_)
  · have hs := ht hc
    refine gx_iload_n C dM_gather_297 3 rfl rfl ?_
    exact gx_iret C hr hlocks dM_gather_298 hs
  · have hs := hf hc
    refine gx_iconst (v := 0) C dM_gather_239 (by decide) ?_
    refine gx_top (fun y1 ey1 => ?_)
    replace hs := hs y1 ey1
    refine gx_istore (L' := [(5, .int y1), (0, .ref (o 0)), (1, .int v1), (2, .int v2), (3, .int v3), (4, .int v4)]) C dM_gather_240 (by decide) rfl ?_
    exact gx_sub [1, 2, 3, 4, 5, 0] rfl hs
set_option maxHeartbeats 4000000 in
set_option maxRecDepth 100000 in
theorem wk_M_gather_242 {l : Launch} {dC : Nat → ClassId} {dI : Nat → Nat → Nat} {cI cZ : ClassId} {o : Nat → Nat}  {p : Program} {e : Env} {s : State} {m : MethodId} {args : Array Value} {below : List Frame} {meth : Method} {c : Code} {A : Nat → Prop} {post : Int32 → GS → Prop} (C : GC p s m args c cM_gather 6 RM wsA (dC, dI) gx_cl [(cI, .int), (cZ, .boolean)] A) (hr : meth.sig.returnType = (some .int)) (hlocks : meth.locks = false) (S : GS) (v1 : Int32) (v2 : Int32) (v3 : Int32) (v4 : Int32) (v5 : Int32) (hs : sp_M_gather post (vh_M_gather o (GV p l e ({ frames := 3, cells := 0, slots := 0, locals := 66 }) s m args below meth c (MQ below (va_Qi post (GB (mw cI cZ o) (dC, dI) gx_cl [(cI, .int), (cZ, .boolean)] A) A) args s 0 0 A) 6 (dC, dI) gx_cl A (mw cI cZ o))) 242 S [v1, v2, v3, v4, v5]) : GV p l e ({ frames := 3, cells := 0, slots := 0, locals := 66 }) s m args below meth c (MQ below (va_Qi post (GB (mw cI cZ o) (dC, dI) gx_cl [(cI, .int), (cZ, .boolean)] A) A) args s 0 0 A) 6 (dC, dI) gx_cl A (mw cI cZ o) S 242 [(0, .ref (o 0)), (1, .int v1), (2, .int v2), (3, .int v3), (4, .int v4), (5, .int v5)] [] := by
  refine gx_aload_n C dM_gather_242 0 rfl rfl ?_
  refine gx_get C mo_this hi_M 4 (by decide) fl_M_13 rfl dM_gather_243 ?_
  refine gx_iload C dM_gather_246 4 rfl ?_
  obtain ⟨hin, hs⟩ := hs
  refine gx_zald C ma_lives hin dM_gather_248 ?_
  obtain ⟨ht, hf⟩ := hs
  refine gx_if_eq C dM_gather_249 291 rfl (fun hc => ?_) (fun hc => ?_)
  · have hs := ht hc
    refine gx_iinc (v0 := 1) (f := fun v => [(4, .int v), (0, .ref (o 0)), (1, .int v1), (2, .int v2), (3, .int v3), (5, .int v5)]) C dM_gather_291 4 rfl (by decide) (by decide) (fun _ => rfl) (fun y1 ey1 => ?_)
    replace hs := hs y1 ey1
    refine gx_goto C dM_gather_294 230 rfl ?_
    exact gx_sub [1, 2, 3, 4, 0] rfl hs
  · have hs := hf hc
    refine gx_iload C dM_gather_252 5 rfl ?_
    refine gx_aload_n C dM_gather_254 0 rfl rfl ?_
    refine gx_get C mo_this hi_M 6 (by decide) fl_M_20 rfl dM_gather_255 ?_
    refine gx_iload C dM_gather_258 4 rfl ?_
    obtain ⟨hin, hs⟩ := hs
    refine gx_iald C ma_sizes hin dM_gather_260 ?_
    obtain ⟨ht, hf⟩ := hs
    refine gx_icmp_gt C dM_gather_261 291 rfl (fun hc => ?_) (fun hc => ?_)
    · have hs := ht hc
      refine gx_iinc (v0 := 1) (f := fun v => [(4, .int v), (0, .ref (o 0)), (1, .int v1), (2, .int v2), (3, .int v3), (5, .int v5)]) C dM_gather_291 4 rfl (by decide) (by decide) (fun _ => rfl) (fun y2 ey2 => ?_)
      replace hs := hs y2 ey2
      refine gx_goto C dM_gather_294 230 rfl ?_
      exact gx_sub [1, 2, 3, 4, 0] rfl hs
    · have hs := hf hc
      refine gx_aload_n C dM_gather_264 0 rfl rfl ?_
      refine gx_aload_n C dM_gather_265 0 rfl rfl ?_
      refine gx_get C mo_this hi_M 8 (by decide) fl_M_26 rfl dM_gather_266 ?_
      refine gx_aload_n C dM_gather_269 0 rfl rfl ?_
      refine gx_get C mo_this hi_M 5 (by decide) fl_M_17 rfl dM_gather_270 ?_
      refine gx_iload C dM_gather_273 4 rfl ?_
      obtain ⟨hin, hs⟩ := hs
      refine gx_iald C ma_addresses hin dM_gather_275 ?_
      refine gx_iconst (v := 1) C dM_gather_276 (by decide) ?_
      refine gx_iadd C dM_gather_277 ?_
      refine gx_iload C dM_gather_278 5 rfl ?_
      refine gx_iadd C dM_gather_280 ?_
      obtain ⟨hin, hs⟩ := hs
      refine gx_iald C ma_word hin dM_gather_281 ?_
      refine gx_callv (As := [.int (S 5 (((S 2 (v4).toNatClampNeg) + 1) + v5).toNatClampNeg)]) (rest := []) C (mt_M_comes l dC dI cI cZ o  _ _ _ hs) (gx_cwV C 1 ln_M_95 im_M_comes se_M_comes in_CountedObjectsModel cd_M_comes rfl rfl (by decide +kernel) ⟨Nat.le_of_ble_eq_true rfl, Nat.le_of_ble_eq_true rfl⟩) mo_this rfl (Nat.le_of_ble_eq_true rfl) dM_gather_282 (fun S1 => mw_ad _ S1) rfl (fun S3 hs => ?_)
      refine gx_iinc (v0 := 1) (f := fun v => [(5, .int v), (0, .ref (o 0)), (1, .int v1), (2, .int v2), (3, .int v3), (4, .int v4)]) C dM_gather_285 5 rfl (by decide) (by decide) (fun _ => rfl) (fun y5 ey5 => ?_)
      replace hs := hs y5 ey5
      refine gx_goto C dM_gather_288 242 rfl ?_
      exact gx_sub [1, 2, 3, 4, 5, 0] rfl hs
set_option maxHeartbeats 4000000 in
set_option maxRecDepth 100000 in
theorem mt_M_gather (l : Launch) (dC : Nat → ClassId) (dI : Nat → Nat → Nat) (cI cZ : ClassId) (o : Nat → Nat) (v1 : Int32) (S : GS) (post : Int32 → GS → Prop) (h : wp_M_gather [v1] S post) : MetI l yM_gather (Cond.code yM_gather cM_gather 6 (some .int) :: wsA) ({ frames := 3, cells := 0, slots := 0, locals := 66 }) (dC, dI) gx_cl [(cI, .int), (cZ, .boolean)] (mw cI cZ o) [.ref (o 0), .int v1] S post := by
  refine gx_metI (by decide) wsA_good (Nat.le_of_ble_eq_true rfl) ?_
  intro p e s m args below meth c A C hr hlocks
  refine h (vh_M_gather o (GV p l e ({ frames := 3, cells := 0, slots := 0, locals := 66 }) s m args below meth c (MQ below (va_Qi post (GB (mw cI cZ o) (dC, dI) gx_cl [(cI, .int), (cZ, .boolean)] A) A) args s 0 0 A) 6 (dC, dI) gx_cl A (mw cI cZ o))) (fun h S xs hs => ?_)
  unfold sp_M_gather at hs
  split at hs
  · exact wk_M_gather_0 C hr hlocks _ _ hs
  · exact wk_M_gather_2 C hr hlocks _ _ _ hs
  · exact wk_M_gather_31 C hr hlocks _ _ _ _ hs
  · exact wk_M_gather_70 C hr hlocks _ _ _ _ hs
  · exact wk_M_gather_78 C hr hlocks _ _ _ _ hs
  · exact wk_M_gather_148 C hr hlocks _ _ _ _ _ hs
  · exact wk_M_gather_203 C hr hlocks _ _ _ _ _ hs
  · exact wk_M_gather_230 C hr hlocks _ _ _ _ _ hs
  · exact wk_M_gather_242 C hr hlocks _ _ _ _ _ _ hs
  · exact hs.elim
/-- CountedObjectsModel.freeEntry()I: a step from head to head -/
def sp_M_freeEntry (post : Int32 → GS → Prop) (V : Nat → GS → List Int32 → Prop) (h : Nat) (S : GS) (xs : List Int32) : Prop := match h, xs with
  | 0, [] => ∀ y1 : Int32, y1 = 1 → V 2 S [y1]
  | 2, [v1] => (((S 100 2) < v1 → post 0 S) ∧ (¬ (S 100 2) < v1 → (vp_in v1 41 ∧ ((¬ (S 1 (v1).toNatClampNeg) = 0 → (∀ y1 : Int32, y1 = v1 + 1 → V 2 S [y1])) ∧ ((S 1 (v1).toNatClampNeg) = 0 → post v1 S)))))
  | _, _ => False
def wp_M_freeEntry (xs : List Int32) (S : GS) (post : Int32 → GS → Prop) : Prop := ∀ V : Nat → GS → List Int32 → Prop, (∀ h S xs, sp_M_freeEntry post V h S xs → V h S xs) → V 0 S xs
def vh_M_freeEntry (o : Nat → Nat) (G : GS → Nat → List (Nat × Value) → List Value → Prop) (h : Nat) (S : GS) (xs : List Int32) : Prop := match h, xs with
  | 0, [] => G S 0 [(0, .ref (o 0))] []
  | 2, [v1] => G S 2 [(0, .ref (o 0)), (1, .int v1)] []
  | _, _ => True
set_option maxHeartbeats 4000000 in
set_option maxRecDepth 100000 in
theorem wk_M_freeEntry_0 {l : Launch} {dC : Nat → ClassId} {dI : Nat → Nat → Nat} {cI cZ : ClassId} {o : Nat → Nat}  {p : Program} {e : Env} {s : State} {m : MethodId} {args : Array Value} {below : List Frame} {meth : Method} {c : Code} {A : Nat → Prop} {post : Int32 → GS → Prop} (C : GC p s m args c cM_freeEntry 2 RM wsA (dC, dI) gx_cl [(cI, .int), (cZ, .boolean)] A) (hr : meth.sig.returnType = (some .int)) (hlocks : meth.locks = false) (S : GS) (hs : sp_M_freeEntry post (vh_M_freeEntry o (GV p l e ({ frames := 0, cells := 0, slots := 0, locals := 0 }) s m args below meth c (MQ below (va_Qi post (GB (mw cI cZ o) (dC, dI) gx_cl [(cI, .int), (cZ, .boolean)] A) A) args s 0 0 A) 2 (dC, dI) gx_cl A (mw cI cZ o))) 0 S []) : GV p l e ({ frames := 0, cells := 0, slots := 0, locals := 0 }) s m args below meth c (MQ below (va_Qi post (GB (mw cI cZ o) (dC, dI) gx_cl [(cI, .int), (cZ, .boolean)] A) A) args s 0 0 A) 2 (dC, dI) gx_cl A (mw cI cZ o) S 0 [(0, .ref (o 0))] [] := by
  refine gx_iconst (v := 1) C dM_freeEntry_0 (by decide) ?_
  refine gx_top (fun y1 ey1 => ?_)
  replace hs := hs y1 ey1
  refine gx_istore_n (L' := [(1, .int y1), (0, .ref (o 0))]) C dM_freeEntry_1 rfl (by decide) rfl ?_
  exact gx_sub [1, 0] rfl hs
set_option maxHeartbeats 4000000 in
set_option maxRecDepth 100000 in
theorem wk_M_freeEntry_2 {l : Launch} {dC : Nat → ClassId} {dI : Nat → Nat → Nat} {cI cZ : ClassId} {o : Nat → Nat}  {p : Program} {e : Env} {s : State} {m : MethodId} {args : Array Value} {below : List Frame} {meth : Method} {c : Code} {A : Nat → Prop} {post : Int32 → GS → Prop} (C : GC p s m args c cM_freeEntry 2 RM wsA (dC, dI) gx_cl [(cI, .int), (cZ, .boolean)] A) (hr : meth.sig.returnType = (some .int)) (hlocks : meth.locks = false) (S : GS) (v1 : Int32) (hs : sp_M_freeEntry post (vh_M_freeEntry o (GV p l e ({ frames := 0, cells := 0, slots := 0, locals := 0 }) s m args below meth c (MQ below (va_Qi post (GB (mw cI cZ o) (dC, dI) gx_cl [(cI, .int), (cZ, .boolean)] A) A) args s 0 0 A) 2 (dC, dI) gx_cl A (mw cI cZ o))) 2 S [v1]) : GV p l e ({ frames := 0, cells := 0, slots := 0, locals := 0 }) s m args below meth c (MQ below (va_Qi post (GB (mw cI cZ o) (dC, dI) gx_cl [(cI, .int), (cZ, .boolean)] A) A) args s 0 0 A) 2 (dC, dI) gx_cl A (mw cI cZ o) S 2 [(0, .ref (o 0)), (1, .int v1)] [] := by
  refine gx_iload_n C dM_freeEntry_2 1 rfl rfl ?_
  refine gx_aload_n C dM_freeEntry_3 0 rfl rfl ?_
  refine gx_get C mo_this hi_M 2 (by decide) fl_M_51 rfl dM_freeEntry_4 ?_
  obtain ⟨ht, hf⟩ := hs
  refine gx_icmp_gt C dM_freeEntry_7 27 rfl (fun hc => ?_) (fun hc => ?_)
  · have hs := ht hc
    refine gx_iconst (v := 0) C dM_freeEntry_27 (by decide) ?_
    exact gx_iret C hr hlocks dM_freeEntry_28 hs
  · have hs := hf hc
    refine gx_aload_n C dM_freeEntry_10 0 rfl rfl ?_
    refine gx_get C mo_this hi_M 4 (by decide) fl_M_13 rfl dM_freeEntry_11 ?_
    refine gx_iload_n C dM_freeEntry_14 1 rfl rfl ?_
    obtain ⟨hin, hs⟩ := hs
    refine gx_zald C ma_lives hin dM_freeEntry_15 ?_
    obtain ⟨ht, hf⟩ := hs
    refine gx_if_ne C dM_freeEntry_16 21 rfl (fun hc => ?_) (fun hc => ?_)
    · have hs := ht hc
      refine gx_iinc (v0 := 1) (f := fun v => [(1, .int v), (0, .ref (o 0))]) C dM_freeEntry_21 1 rfl (by decide) (by decide) (fun _ => rfl) (fun y1 ey1 => ?_)
      replace hs := hs y1 ey1
      refine gx_goto C dM_freeEntry_24 2 rfl ?_
      exact gx_sub [1, 0] rfl hs
    · have hs := hf hc
      refine gx_iload_n C dM_freeEntry_19 1 rfl rfl ?_
      exact gx_iret C hr hlocks dM_freeEntry_20 hs
set_option maxHeartbeats 4000000 in
set_option maxRecDepth 100000 in
theorem mt_M_freeEntry (l : Launch) (dC : Nat → ClassId) (dI : Nat → Nat → Nat) (cI cZ : ClassId) (o : Nat → Nat) (S : GS) (post : Int32 → GS → Prop) (h : wp_M_freeEntry [] S post) : MetI l yM_freeEntry (Cond.code yM_freeEntry cM_freeEntry 2 (some .int) :: wsA) ({ frames := 0, cells := 0, slots := 0, locals := 0 }) (dC, dI) gx_cl [(cI, .int), (cZ, .boolean)] (mw cI cZ o) [.ref (o 0)] S post := by
  refine gx_metI (by decide) wsA_good (Nat.le_of_ble_eq_true rfl) ?_
  intro p e s m args below meth c A C hr hlocks
  refine h (vh_M_freeEntry o (GV p l e ({ frames := 0, cells := 0, slots := 0, locals := 0 }) s m args below meth c (MQ below (va_Qi post (GB (mw cI cZ o) (dC, dI) gx_cl [(cI, .int), (cZ, .boolean)] A) A) args s 0 0 A) 2 (dC, dI) gx_cl A (mw cI cZ o))) (fun h S xs hs => ?_)
  unfold sp_M_freeEntry at hs
  split at hs
  · exact wk_M_freeEntry_0 C hr hlocks _ hs
  · exact wk_M_freeEntry_2 C hr hlocks _ _ hs
  · exact hs.elim
/-- CountedObjectsModel.instantiate(III)I: a step from head to head -/
def sp_M_instantiate (post : Int32 → GS → Prop) (V : Nat → GS → List Int32 → Prop) (h : Nat) (S : GS) (xs : List Int32) : Prop := match h, xs with
  | 0, [v1, v2, v3] => wp_M_isRegister  [v1] S (fun r2 S1 => ((¬ r2 = 0 → wp_M_isValue  [v2] S1 (fun r4 S3 => ((r4 = 0 → (∀ S5 : GS, S5 = gx_set 100 0 2 S3 → (((S5 100 0) = 0 → V 47 S5 [v1, v2, v3]) ∧ (¬ (S5 100 0) = 0 → post 0 S5)))) ∧ (¬ r4 = 0 → ((v3 < 0 → (∀ S6 : GS, S6 = gx_set 100 0 2 S3 → (((S6 100 0) = 0 → V 47 S6 [v1, v2, v3]) ∧ (¬ (S6 100 0) = 0 → post 0 S6)))) ∧ (¬ v3 < 0 → ((v3 ≤ 20 → (∀ S7 : GS, S7 = gx_set 100 0 0 S3 → (((S7 100 0) = 0 → V 47 S7 [v1, v2, v3]) ∧ (¬ (S7 100 0) = 0 → post 0 S7)))) ∧ (¬ v3 ≤ 20 → (∀ S8 : GS, S8 = gx_set 100 0 2 S3 → (((S8 100 0) = 0 → V 47 S8 [v1, v2, v3]) ∧ (¬ (S8 100 0) = 0 → post 0 S8))))))))))) ∧ (r2 = 0 → (∀ S9 : GS, S9 = gx_set 100 0 1 S1 → (((S9 100 0) = 0 → V 47 S9 [v1, v2, v3]) ∧ (¬ (S9 100 0) = 0 → post 0 S9))))))
  | 47, [v1, v2, v3] => wp_M_freeEntry  [] S (fun r2 S1 => ((¬ r2 = 0 → ∀ y3 : Int32, y3 = 0 → ((y3 = 0 → V 73 S1 [v1, v2, v3, y3]) ∧ (¬ y3 = 0 → wp_M_gather  [v2] S1 (fun r5 S4 => V 73 S4 [v1, v2, v3, y3])))) ∧ (r2 = 0 → ∀ y6 : Int32, y6 = 1 → ((y6 = 0 → V 73 S1 [v1, v2, v3, y6]) ∧ (¬ y6 = 0 → wp_M_gather  [v2] S1 (fun r8 S7 => V 73 S7 [v1, v2, v3, y6]))))))
  | 73, [v1, v2, v3, v4] => wp_M_freeEntry  [] S (fun r2 S1 => ((¬ r2 = 0 → wp_M_place  [v3 + 2] S1 (fun r4 S3 => ((0 ≤ r4 → V 119 S3 [v1, v2, v3, v4, r4]) ∧ (¬ 0 ≤ r4 → ((¬ v4 = 0 → V 119 S3 [v1, v2, v3, v4, r4]) ∧ (v4 = 0 → wp_M_gather  [v2] S3 (fun r6 S5 => wp_M_place  [v3 + 2] S5 (fun r8 S7 => V 119 S7 [v1, v2, v3, v4, r8])))))))) ∧ (r2 = 0 → ∀ y9 : Int32, y9 = (-1) → ((0 ≤ y9 → V 119 S1 [v1, v2, v3, v4, y9]) ∧ (¬ 0 ≤ y9 → ((¬ v4 = 0 → V 119 S1 [v1, v2, v3, v4, y9]) ∧ (v4 = 0 → wp_M_gather  [v2] S1 (fun r11 S10 => wp_M_place  [v3 + 2] S10 (fun r13 S12 => V 119 S12 [v1, v2, v3, v4, r13])))))))))
  | 119, [v1, v2, v3, v4, v5] => ((0 ≤ v5 → wp_M_freeEntry  [] S (fun r2 S1 => (vp_in r2 41 ∧ ∀ S3 : GS, S3 = gx_set 1 (r2).toNatClampNeg 1 S1 → (vp_in r2 41 ∧ ∀ S4 : GS, S4 = gx_set 2 (r2).toNatClampNeg v5 S3 → (vp_in r2 41 ∧ ∀ S5 : GS, S5 = gx_set 3 (r2).toNatClampNeg v3 S4 → (vp_in r2 41 ∧ ∀ S6 : GS, S6 = gx_set 4 (r2).toNatClampNeg 0 S5 → (vp_in (v5 + 1) 400 ∧ ∀ S7 : GS, S7 = gx_set 5 (v5 + 1).toNatClampNeg v2 S6 → ∀ y8 : Int32, y8 = 0 → V 183 S7 [v1, v2, v3, v4, v5, r2, y8]))))))) ∧ (¬ 0 ≤ v5 → (∀ S9 : GS, S9 = gx_set 100 0 3 S → post 0 S9)))
  | 183, [v1, v2, v3, v4, v5, v6, v7] => ((v3 ≤ v7 → wp_M_comes  [v2] S (fun S1 => (vp_in v1 8 ∧ ∀ y3 : Int32, y3 = S1 0 (v1).toNatClampNeg → (vp_in v1 8 ∧ ∀ S4 : GS, S4 = gx_set 0 (v1).toNatClampNeg (2 * v6) S1 → wp_M_replace  [y3, 2 * v6] S4 (fun r6 S5 => post (2 * v6) S5))))) ∧ (¬ v3 ≤ v7 → (vp_in ((v5 + 2) + v7) 400 ∧ ∀ S7 : GS, S7 = gx_set 5 ((v5 + 2) + v7).toNatClampNeg 0 S → (∀ y8 : Int32, y8 = v7 + 1 → V 183 S7 [v1, v2, v3, v4, v5, v6, y8]))))
  | _, _ => False
def wp_M_instantiate (xs : List Int32) (S : GS) (post : Int32 → GS → Prop) : Prop := ∀ V : Nat → GS → List Int32 → Prop, (∀ h S xs, sp_M_instantiate post V h S xs → V h S xs) → V 0 S xs
def vh_M_instantiate (o : Nat → Nat) (G : GS → Nat → List (Nat × Value) → List Value → Prop) (h : Nat) (S : GS) (xs : List Int32) : Prop := match h, xs with
  | 0, [v1, v2, v3] => G S 0 [(0, .ref (o 0)), (1, .int v1), (2, .int v2), (3, .int v3)] []
  | 47, [v1, v2, v3] => G S 47 [(0, .ref (o 0)), (1, .int v1), (2, .int v2), (3, .int v3)] []
  | 73, [v1, v2, v3, v4] => G S 73 [(0, .ref (o 0)), (1, .int v1), (2, .int v2), (3, .int v3), (4, .int v4)] []
  | 119, [v1, v2, v3, v4, v5] => G S 119 [(0, .ref (o 0)), (1, .int v1), (2, .int v2), (3, .int v3), (4, .int v4), (5, .int v5)] []
  | 183, [v1, v2, v3, v4, v5, v6, v7] => G S 183 [(0, .ref (o 0)), (1, .int v1), (2, .int v2), (3, .int v3), (4, .int v4), (5, .int v5), (6, .int v6), (7, .int v7)] []
  | _, _ => True
set_option maxHeartbeats 4000000 in
set_option maxRecDepth 100000 in
theorem wk_M_instantiate_0 {l : Launch} {dC : Nat → ClassId} {dI : Nat → Nat → Nat} {cI cZ : ClassId} {o : Nat → Nat}  {p : Program} {e : Env} {s : State} {m : MethodId} {args : Array Value} {below : List Frame} {meth : Method} {c : Code} {A : Nat → Prop} {post : Int32 → GS → Prop} (C : GC p s m args c cM_instantiate 8 RM wsA (dC, dI) gx_cl [(cI, .int), (cZ, .boolean)] A) (hr : meth.sig.returnType = (some .int)) (hlocks : meth.locks = false) (S : GS) (v1 : Int32) (v2 : Int32) (v3 : Int32) (hs : sp_M_instantiate post (vh_M_instantiate o (GV p l e ({ frames := 4, cells := 0, slots := 0, locals := 91 }) s m args below meth c (MQ below (va_Qi post (GB (mw cI cZ o) (dC, dI) gx_cl [(cI, .int), (cZ, .boolean)] A) A) args s 0 0 A) 8 (dC, dI) gx_cl A (mw cI cZ o))) 0 S [v1, v2, v3]) : GV p l e ({ frames := 4, cells := 0, slots := 0, locals := 91 }) s m args below meth c (MQ below (va_Qi post (GB (mw cI cZ o) (dC, dI) gx_cl [(cI, .int), (cZ, .boolean)] A) A) args s 0 0 A) 8 (dC, dI) gx_cl A (mw cI cZ o) S 0 [(0, .ref (o 0)), (1, .int v1), (2, .int v2), (3, .int v3)] [] := by
  refine gx_aload_n C dM_instantiate_0 0 rfl rfl ?_
  refine gx_iload_n C dM_instantiate_1 1 rfl rfl ?_
  refine gx_calls (As := [.int v1]) (rest := [.ref (o 0)]) C (mt_M_isRegister l dC dI cI cZ o  _ _ _ hs) (gx_cwS C 1 ln_M_107 sm_M_isRegister in_CountedObjectsModel cd_M_isRegister rfl rfl (by decide +kernel) ⟨Nat.le_of_ble_eq_true rfl, Nat.le_of_ble_eq_true rfl⟩) rfl (Nat.le_of_ble_eq_true rfl) dM_instantiate_2 (fun S1 => mw_ad _ S1) rfl (fun r2 S1 hs => ?_)
  obtain ⟨ht, hf⟩ := hs
  refine gx_if_ne C dM_instantiate_5 12 rfl (fun hc => ?_) (fun hc => ?_)
  · have hs := ht hc
    refine gx_aload_n C dM_instantiate_12 0 rfl rfl ?_
    refine gx_iload_n C dM_instantiate_13 2 rfl rfl ?_
    refine gx_calli (As := [.int v2]) (rest := [.ref (o 0)]) C (mt_M_isValue l dC dI cI cZ o  _ _ _ hs) (gx_cwV C 1 ln_M_110 im_M_isValue se_M_isValue in_CountedObjectsModel cd_M_isValue rfl rfl (by decide +kernel) ⟨Nat.le_of_ble_eq_true rfl, Nat.le_of_ble_eq_true rfl⟩) mo_this rfl (Nat.le_of_ble_eq_true rfl) dM_instantiate_14 (fun S1 => mw_ad _ S1) rfl (fun r4 S3 hs => ?_)
    obtain ⟨ht, hf⟩ := hs
    refine gx_if_eq C dM_instantiate_17 30 rfl (fun hc => ?_) (fun hc => ?_)
    · have hs := ht hc
      refine gx_iconst (v := 2) C dM_instantiate_30 (by decide) ?_
      refine gx_goto C dM_instantiate_31 35 rfl ?_
      refine gx_put C mo_this hi_M tyM tyM_ok nmM 0 (by decide) fl_M_58 rfl (by decide +kernel) (Nat.le_of_ble_eq_true rfl) (mp_thrown _ _) dM_instantiate_35 (fun S5 eS5 => ?_)
      replace hs := hs S5 eS5
      refine gx_aload_n C dM_instantiate_38 0 rfl rfl ?_
      refine gx_get C mo_this hi_M 0 (by decide) fl_M_58 rfl dM_instantiate_39 ?_
      obtain ⟨ht, hf⟩ := hs
      refine gx_if_eq C dM_instantiate_42 47 rfl (fun hc => ?_) (fun hc => ?_)
      · have hs := ht hc
        exact hs
      · have hs := hf hc
        refine gx_iconst (v := 0) C dM_instantiate_45 (by decide) ?_
        exact gx_iret C hr hlocks dM_instantiate_46 hs
    · have hs := hf hc
      refine gx_iload_n C dM_instantiate_20 3 rfl rfl ?_
      obtain ⟨ht, hf⟩ := hs
      refine gx_if_lt C dM_instantiate_21 30 rfl (fun hc => ?_) (fun hc => ?_)
      · have hs := ht hc
        refine gx_iconst (v := 2) C dM_instantiate_30 (by decide) ?_
        refine gx_goto C dM_instantiate_31 35 rfl ?_
        refine gx_put C mo_this hi_M tyM tyM_ok nmM 0 (by decide) fl_M_58 rfl (by decide +kernel) (Nat.le_of_ble_eq_true rfl) (mp_thrown _ _) dM_instantiate_35 (fun S6 eS6 => ?_)
        replace hs := hs S6 eS6
        refine gx_aload_n C dM_instantiate_38 0 rfl rfl ?_
        refine gx_get C mo_this hi_M 0 (by decide) fl_M_58 rfl dM_instantiate_39 ?_
        obtain ⟨ht, hf⟩ := hs
        refine gx_if_eq C dM_instantiate_42 47 rfl (fun hc => ?_) (fun hc => ?_)
        · have hs := ht hc
          exact hs
        · have hs := hf hc
          refine gx_iconst (v := 0) C dM_instantiate_45 (by decide) ?_
          exact gx_iret C hr hlocks dM_instantiate_46 hs
      · have hs := hf hc
        refine gx_iload_n C dM_instantiate_24 3 rfl rfl ?_
        refine gx_bipush (v := 20) C dM_instantiate_25 (by decide) ?_
        obtain ⟨ht, hf⟩ := hs
        refine gx_icmp_le C dM_instantiate_27 34 rfl (fun hc => ?_) (fun hc => ?_)
        · have hs := ht hc
          refine gx_iconst (v := 0) C dM_instantiate_34 (by decide) ?_
          refine gx_put C mo_this hi_M tyM tyM_ok nmM 0 (by decide) fl_M_58 rfl (by decide +kernel) (Nat.le_of_ble_eq_true rfl) (mp_thrown _ _) dM_instantiate_35 (fun S7 eS7 => ?_)
          replace hs := hs S7 eS7
          refine gx_aload_n C dM_instantiate_38 0 rfl rfl ?_
          refine gx_get C mo_this hi_M 0 (by decide) fl_M_58 rfl dM_instantiate_39 ?_
          obtain ⟨ht, hf⟩ := hs
          refine gx_if_eq C dM_instantiate_42 47 rfl (fun hc => ?_) (fun hc => ?_)
          · have hs := ht hc
            exact hs
          · have hs := hf hc
            refine gx_iconst (v := 0) C dM_instantiate_45 (by decide) ?_
            exact gx_iret C hr hlocks dM_instantiate_46 hs
        · have hs := hf hc
          refine gx_iconst (v := 2) C dM_instantiate_30 (by decide) ?_
          refine gx_goto C dM_instantiate_31 35 rfl ?_
          refine gx_put C mo_this hi_M tyM tyM_ok nmM 0 (by decide) fl_M_58 rfl (by decide +kernel) (Nat.le_of_ble_eq_true rfl) (mp_thrown _ _) dM_instantiate_35 (fun S8 eS8 => ?_)
          replace hs := hs S8 eS8
          refine gx_aload_n C dM_instantiate_38 0 rfl rfl ?_
          refine gx_get C mo_this hi_M 0 (by decide) fl_M_58 rfl dM_instantiate_39 ?_
          obtain ⟨ht, hf⟩ := hs
          refine gx_if_eq C dM_instantiate_42 47 rfl (fun hc => ?_) (fun hc => ?_)
          · have hs := ht hc
            exact hs
          · have hs := hf hc
            refine gx_iconst (v := 0) C dM_instantiate_45 (by decide) ?_
            exact gx_iret C hr hlocks dM_instantiate_46 hs
  · have hs := hf hc
    refine gx_iconst (v := 1) C dM_instantiate_8 (by decide) ?_
    refine gx_goto C dM_instantiate_9 35 rfl ?_
    refine gx_put C mo_this hi_M tyM tyM_ok nmM 0 (by decide) fl_M_58 rfl (by decide +kernel) (Nat.le_of_ble_eq_true rfl) (mp_thrown _ _) dM_instantiate_35 (fun S9 eS9 => ?_)
    replace hs := hs S9 eS9
    refine gx_aload_n C dM_instantiate_38 0 rfl rfl ?_
    refine gx_get C mo_this hi_M 0 (by decide) fl_M_58 rfl dM_instantiate_39 ?_
    obtain ⟨ht, hf⟩ := hs
    refine gx_if_eq C dM_instantiate_42 47 rfl (fun hc => ?_) (fun hc => ?_)
    · have hs := ht hc
      exact hs
    · have hs := hf hc
      refine gx_iconst (v := 0) C dM_instantiate_45 (by decide) ?_
      exact gx_iret C hr hlocks dM_instantiate_46 hs
set_option maxHeartbeats 4000000 in
set_option maxRecDepth 100000 in
theorem wk_M_instantiate_47 {l : Launch} {dC : Nat → ClassId} {dI : Nat → Nat → Nat} {cI cZ : ClassId} {o : Nat → Nat}  {p : Program} {e : Env} {s : State} {m : MethodId} {args : Array Value} {below : List Frame} {meth : Method} {c : Code} {A : Nat → Prop} {post : Int32 → GS → Prop} (C : GC p s m args c cM_instantiate 8 RM wsA (dC, dI) gx_cl [(cI, .int), (cZ, .boolean)] A) (hr : meth.sig.returnType = (some .int)) (hlocks : meth.locks = false) (S : GS) (v1 : Int32) (v2 : Int32) (v3 : Int32) (hs : sp_M_instantiate post (vh_M_instantiate o (GV p l e ({ frames := 4, cells := 0, slots := 0, locals := 91 }) s m args below meth c (MQ below (va_Qi post (GB (mw cI cZ o) (dC, dI) gx_cl [(cI, .int), (cZ, .boolean)] A) A) args s 0 0 A) 8 (dC, dI) gx_cl A (mw cI cZ o))) 47 S [v1, v2, v3]) : GV p l e ({ frames := 4, cells := 0, slots := 0, locals := 91 }) s m args below meth c (MQ below (va_Qi post (GB (mw cI cZ o) (dC, dI) gx_cl [(cI, .int), (cZ, .boolean)] A) A) args s 0 0 A) 8 (dC, dI) gx_cl A (mw cI cZ o) S 47 [(0, .ref (o 0)), (1, .int v1), (2, .int v2), (3, .int v3)] [] := by
  refine gx_aload_n C dM_instantiate_47 0 rfl rfl ?_
  refine gx_calli (As := []) (rest := []) C (mt_M_freeEntry l dC dI cI cZ o  _ _ hs) (gx_cwV C 0 ln_M_113 im_M_freeEntry se_M_freeEntry in_CountedObjectsModel cd_M_freeEntry rfl rfl (by decide +kernel) ⟨Nat.le_of_ble_eq_true rfl, Nat.le_of_ble_eq_true rfl⟩) mo_this rfl (Nat.le_of_ble_eq_true rfl) dM_instantiate_48 (fun S1 => mw_ad _ S1) rfl (fun r2 S1 hs => ?_)
  obtain ⟨ht, hf⟩ := hs
  refine gx_if_ne C dM_instantiate_51 58 rfl (fun hc => ?_) (fun hc => ?_)
  · have hs := ht hc
    refine gx_iconst (v := 0) C dM_instantiate_58 (by decide) ?_
    refine gx_top (fun y3 ey3 => ?_)
    replace hs := hs y3 ey3
    refine gx_istore (L' := [(4, .int y3), (0, .ref (o 0)), (1, .int v1), (2, .int v2), (3, .int v3)]) C dM_instantiate_59 (by decide) rfl ?_
    refine gx_iload C dM_instantiate_61 0 rfl ?_
    obtain ⟨ht, hf⟩ := hs
    refine gx_if_eq C dM_instantiate_63 73 rfl (fun hc => ?_) (fun hc => ?_)
    · have hs := ht hc
      exact gx_sub [1, 2, 3, 4, 0] rfl hs
    · have hs := hf hc
      refine gx_aload_n C dM_instantiate_66 1 rfl rfl ?_
      refine gx_iload_n C dM_instantiate_67 3 rfl rfl ?_
      refine gx_calli (As := [.int v2]) (rest := []) C (mt_M_gather l dC dI cI cZ o  _ _ _ hs) (gx_cwV C 1 ln_M_116 im_M_gather se_M_gather in_CountedObjectsModel cd_M_gather rfl rfl (by decide +kernel) ⟨Nat.le_of_ble_eq_true rfl, Nat.le_of_ble_eq_true rfl⟩) mo_this rfl (Nat.le_of_ble_eq_true rfl) dM_instantiate_68 (fun S1 => mw_ad _ S1) rfl (fun r5 S4 hs => ?_)
      refine gx_istore (L' := [(5, .int r5), (4, .int y3), (0, .ref (o 0)), (1, .int v1), (2, .int v2), (3, .int v3)]) C dM_instantiate_71 (by decide) rfl ?_
      exact gx_sub [2, 3, 4, 5, 1] rfl hs
  · have hs := hf hc
    refine gx_iconst (v := 1) C dM_instantiate_54 (by decide) ?_
    refine gx_goto C dM_instantiate_55 59 rfl ?_
    refine gx_top (fun y6 ey6 => ?_)
    replace hs := hs y6 ey6
    refine gx_istore (L' := [(4, .int y6), (0, .ref (o 0)), (1, .int v1), (2, .int v2), (3, .int v3)]) C dM_instantiate_59 (by decide) rfl ?_
    refine gx_iload C dM_instantiate_61 0 rfl ?_
    obtain ⟨ht, hf⟩ := hs
    refine gx_if_eq C dM_instantiate_63 73 rfl (fun hc => ?_) (fun hc => ?_)
    · have hs := ht hc
      exact gx_sub [1, 2, 3, 4, 0] rfl hs
    · have hs := hf hc
      refine gx_aload_n C dM_instantiate_66 1 rfl rfl ?_
      refine gx_iload_n C dM_instantiate_67 3 rfl rfl ?_
      refine gx_calli (As := [.int v2]) (rest := []) C (mt_M_gather l dC dI cI cZ o  _ _ _ hs) (gx_cwV C 1 ln_M_116 im_M_gather se_M_gather in_CountedObjectsModel cd_M_gather rfl rfl (by decide +kernel) ⟨Nat.le_of_ble_eq_true rfl, Nat.le_of_ble_eq_true rfl⟩) mo_this rfl (Nat.le_of_ble_eq_true rfl) dM_instantiate_68 (fun S1 => mw_ad _ S1) rfl (fun r8 S7 hs => ?_)
      refine gx_istore (L' := [(5, .int r8), (4, .int y6), (0, .ref (o 0)), (1, .int v1), (2, .int v2), (3, .int v3)]) C dM_instantiate_71 (by decide) rfl ?_
      exact gx_sub [2, 3, 4, 5, 1] rfl hs
set_option maxHeartbeats 4000000 in
set_option maxRecDepth 100000 in
theorem wk_M_instantiate_73 {l : Launch} {dC : Nat → ClassId} {dI : Nat → Nat → Nat} {cI cZ : ClassId} {o : Nat → Nat}  {p : Program} {e : Env} {s : State} {m : MethodId} {args : Array Value} {below : List Frame} {meth : Method} {c : Code} {A : Nat → Prop} {post : Int32 → GS → Prop} (C : GC p s m args c cM_instantiate 8 RM wsA (dC, dI) gx_cl [(cI, .int), (cZ, .boolean)] A) (hr : meth.sig.returnType = (some .int)) (hlocks : meth.locks = false) (S : GS) (v1 : Int32) (v2 : Int32) (v3 : Int32) (v4 : Int32) (hs : sp_M_instantiate post (vh_M_instantiate o (GV p l e ({ frames := 4, cells := 0, slots := 0, locals := 91 }) s m args below meth c (MQ below (va_Qi post (GB (mw cI cZ o) (dC, dI) gx_cl [(cI, .int), (cZ, .boolean)] A) A) args s 0 0 A) 8 (dC, dI) gx_cl A (mw cI cZ o))) 73 S [v1, v2, v3, v4]) : GV p l e ({ frames := 4, cells := 0, slots := 0, locals := 91 }) s m args below meth c (MQ below (va_Qi post (GB (mw cI cZ o) (dC, dI) gx_cl [(cI, .int), (cZ, .boolean)] A) A) args s 0 0 A) 8 (dC, dI) gx_cl A (mw cI cZ o) S 73 [(0, .ref (o 0)), (1, .int v1), (2, .int v2), (3, .int v3), (4, .int v4)] [] := by
  refine gx_aload_n C dM_instantiate_73 0 rfl rfl ?_
  refine gx_calli (As := []) (rest := []) C (mt_M_freeEntry l dC dI cI cZ o  _ _ hs) (gx_cwV C 0 ln_M_113 im_M_freeEntry se_M_freeEntry in_CountedObjectsModel cd_M_freeEntry rfl rfl (by decide +kernel) ⟨Nat.le_of_ble_eq_true rfl, Nat.le_of_ble_eq_true rfl⟩) mo_this rfl (Nat.le_of_ble_eq_true rfl) dM_instantiate_74 (fun S1 => mw_ad _ S1) rfl (fun r2 S1 hs => ?_)
  obtain ⟨ht, hf⟩ := hs
  refine gx_if_ne C dM_instantiate_77 84 rfl (fun hc => ?_) (fun hc => ?_)
  · have hs := ht hc
    refine gx_aload_n C dM_instantiate_84 0 rfl rfl ?_
    refine gx_iload_n C dM_instantiate_85 3 rfl rfl ?_
    refine gx_iconst (v := 2) C dM_instantiate_86 (by decide) ?_
    refine gx_iadd C dM_instantiate_87 ?_
    refine gx_calli (As := [.int (v3 + 2)]) (rest := []) C (mt_M_place l dC dI cI cZ o  _ _ _ hs) (gx_cwV C 1 ln_M_119 im_M_place se_M_place in_CountedObjectsModel cd_M_place rfl rfl (by decide +kernel) ⟨Nat.le_of_ble_eq_true rfl, Nat.le_of_ble_eq_true rfl⟩) mo_this rfl (Nat.le_of_ble_eq_true rfl) dM_instantiate_88 (fun S1 => mw_ad _ S1) rfl (fun r4 S3 hs => ?_)
    refine gx_istore (L' := [(5, .int r4), (0, .ref (o 0)), (1, .int v1), (2, .int v2), (3, .int v3), (4, .int v4)]) C dM_instantiate_91 (by decide) rfl ?_
    refine gx_iload C dM_instantiate_93 0 rfl ?_
    obtain ⟨ht, hf⟩ := hs
    refine gx_if_ge C dM_instantiate_95 119 rfl (fun hc => ?_) (fun hc => ?_)
    · have hs := ht hc
      exact gx_sub [1, 2, 3, 4, 5, 0] rfl hs
    · have hs := hf hc
      refine gx_iload C dM_instantiate_98 5 rfl ?_
      obtain ⟨ht, hf⟩ := hs
      refine gx_if_ne C dM_instantiate_100 119 rfl (fun hc => ?_) (fun hc => ?_)
      · have hs := ht hc
        exact gx_sub [1, 2, 3, 4, 5, 0] rfl hs
      · have hs := hf hc
        refine gx_aload_n C dM_instantiate_103 1 rfl rfl ?_
        refine gx_iload_n C dM_instantiate_104 3 rfl rfl ?_
        refine gx_calli (As := [.int v2]) (rest := []) C (mt_M_gather l dC dI cI cZ o  _ _ _ hs) (gx_cwV C 1 ln_M_116 im_M_gather se_M_gather in_CountedObjectsModel cd_M_gather rfl rfl (by decide +kernel) ⟨Nat.le_of_ble_eq_true rfl, Nat.le_of_ble_eq_true rfl⟩) mo_this rfl (Nat.le_of_ble_eq_true rfl) dM_instantiate_105 (fun S1 => mw_ad _ S1) rfl (fun r6 S5 hs => ?_)
        refine gx_istore (L' := [(6, .int r6), (5, .int r4), (0, .ref (o 0)), (1, .int v1), (2, .int v2), (3, .int v3), (4, .int v4)]) C dM_instantiate_108 (by decide) rfl ?_
        refine gx_aload_n C dM_instantiate_110 2 rfl rfl ?_
        refine gx_iload_n C dM_instantiate_111 5 rfl rfl ?_
        refine gx_iconst (v := 2) C dM_instantiate_112 (by decide) ?_
        refine gx_iadd C dM_instantiate_113 ?_
        refine gx_calli (As := [.int (v3 + 2)]) (rest := []) C (mt_M_place l dC dI cI cZ o  _ _ _ hs) (gx_cwV C 1 ln_M_119 im_M_place se_M_place in_CountedObjectsModel cd_M_place rfl rfl (by decide +kernel) ⟨Nat.le_of_ble_eq_true rfl, Nat.le_of_ble_eq_true rfl⟩) mo_this rfl (Nat.le_of_ble_eq_true rfl) dM_instantiate_114 (fun S1 => mw_ad _ S1) rfl (fun r8 S7 hs => ?_)
        refine gx_istore (L' := [(5, .int r8), (6, .int r6), (0, .ref (o 0)), (1, .int v1), (2, .int v2), (3, .int v3), (4, .int v4)]) C dM_instantiate_117 (by decide) rfl ?_
        exact gx_sub [2, 3, 4, 5, 6, 0] rfl hs
  · have hs := hf hc
    refine gx_iconst (v := (-1)) C dM_instantiate_80 (by decide) ?_
    refine gx_goto C dM_instantiate_81 91 rfl ?_
    refine gx_top (fun y9 ey9 => ?_)
    replace hs := hs y9 ey9
    refine gx_istore (L' := [(5, .int y9), (0, .ref (o 0)), (1, .int v1), (2, .int v2), (3, .int v3), (4, .int v4)]) C dM_instantiate_91 (by decide) rfl ?_
    refine gx_iload C dM_instantiate_93 0 rfl ?_
    obtain ⟨ht, hf⟩ := hs
    refine gx_if_ge C dM_instantiate_95 119 rfl (fun hc => ?_) (fun hc => ?_)
    · have hs := ht hc
      exact gx_sub [1, 2, 3, 4, 5, 0] rfl hs
    · have hs := hf hc
      refine gx_iload C dM_instantiate_98 5 rfl ?_
      obtain ⟨ht, hf⟩ := hs
      refine gx_if_ne C dM_instantiate_100 119 rfl (fun hc => ?_) (fun hc => ?_)
      · have hs := ht hc
        exact gx_sub [1, 2, 3, 4, 5, 0] rfl hs
      · have hs := hf hc
        refine gx_aload_n C dM_instantiate_103 1 rfl rfl ?_
        refine gx_iload_n C dM_instantiate_104 3 rfl rfl ?_
        refine gx_calli (As := [.int v2]) (rest := []) C (mt_M_gather l dC dI cI cZ o  _ _ _ hs) (gx_cwV C 1 ln_M_116 im_M_gather se_M_gather in_CountedObjectsModel cd_M_gather rfl rfl (by decide +kernel) ⟨Nat.le_of_ble_eq_true rfl, Nat.le_of_ble_eq_true rfl⟩) mo_this rfl (Nat.le_of_ble_eq_true rfl) dM_instantiate_105 (fun S1 => mw_ad _ S1) rfl (fun r11 S10 hs => ?_)
        refine gx_istore (L' := [(6, .int r11), (5, .int y9), (0, .ref (o 0)), (1, .int v1), (2, .int v2), (3, .int v3), (4, .int v4)]) C dM_instantiate_108 (by decide) rfl ?_
        refine gx_aload_n C dM_instantiate_110 2 rfl rfl ?_
        refine gx_iload_n C dM_instantiate_111 5 rfl rfl ?_
        refine gx_iconst (v := 2) C dM_instantiate_112 (by decide) ?_
        refine gx_iadd C dM_instantiate_113 ?_
        refine gx_calli (As := [.int (v3 + 2)]) (rest := []) C (mt_M_place l dC dI cI cZ o  _ _ _ hs) (gx_cwV C 1 ln_M_119 im_M_place se_M_place in_CountedObjectsModel cd_M_place rfl rfl (by decide +kernel) ⟨Nat.le_of_ble_eq_true rfl, Nat.le_of_ble_eq_true rfl⟩) mo_this rfl (Nat.le_of_ble_eq_true rfl) dM_instantiate_114 (fun S1 => mw_ad _ S1) rfl (fun r13 S12 hs => ?_)
        refine gx_istore (L' := [(5, .int r13), (6, .int r11), (0, .ref (o 0)), (1, .int v1), (2, .int v2), (3, .int v3), (4, .int v4)]) C dM_instantiate_117 (by decide) rfl ?_
        exact gx_sub [2, 3, 4, 5, 6, 0] rfl hs
set_option maxHeartbeats 4000000 in
set_option maxRecDepth 100000 in
theorem wk_M_instantiate_119 {l : Launch} {dC : Nat → ClassId} {dI : Nat → Nat → Nat} {cI cZ : ClassId} {o : Nat → Nat}  {p : Program} {e : Env} {s : State} {m : MethodId} {args : Array Value} {below : List Frame} {meth : Method} {c : Code} {A : Nat → Prop} {post : Int32 → GS → Prop} (C : GC p s m args c cM_instantiate 8 RM wsA (dC, dI) gx_cl [(cI, .int), (cZ, .boolean)] A) (hr : meth.sig.returnType = (some .int)) (hlocks : meth.locks = false) (S : GS) (v1 : Int32) (v2 : Int32) (v3 : Int32) (v4 : Int32) (v5 : Int32) (hs : sp_M_instantiate post (vh_M_instantiate o (GV p l e ({ frames := 4, cells := 0, slots := 0, locals := 91 }) s m args below meth c (MQ below (va_Qi post (GB (mw cI cZ o) (dC, dI) gx_cl [(cI, .int), (cZ, .boolean)] A) A) args s 0 0 A) 8 (dC, dI) gx_cl A (mw cI cZ o))) 119 S [v1, v2, v3, v4, v5]) : GV p l e ({ frames := 4, cells := 0, slots := 0, locals := 91 }) s m args below meth c (MQ below (va_Qi post (GB (mw cI cZ o) (dC, dI) gx_cl [(cI, .int), (cZ, .boolean)] A) A) args s 0 0 A) 8 (dC, dI) gx_cl A (mw cI cZ o) S 119 [(0, .ref (o 0)), (1, .int v1), (2, .int v2), (3, .int v3), (4, .int v4), (5, .int v5)] [] := by
  refine gx_iload C dM_instantiate_119 5 rfl ?_
  obtain ⟨ht, hf⟩ := hs
  refine gx_if_ge C dM_instantiate_121 131 rfl (fun hc => ?_) (fun hc => ?_)
  · have hs := ht hc
    refine gx_aload_n C dM_instantiate_131 0 rfl rfl ?_
    refine gx_calli (As := []) (rest := []) C (mt_M_freeEntry l dC dI cI cZ o  _ _ hs) (gx_cwV C 0 ln_M_113 im_M_freeEntry se_M_freeEntry in_CountedObjectsModel cd_M_freeEntry rfl rfl (by decide +kernel) ⟨Nat.le_of_ble_eq_true rfl, Nat.le_of_ble_eq_true rfl⟩) mo_this rfl (Nat.le_of_ble_eq_true rfl) dM_instantiate_132 (fun S1 => mw_ad _ S1) rfl (fun r2 S1 hs => ?_)
    refine gx_istore (L' := [(6, .int r2), (0, .ref (o 0)), (1, .int v1), (2, .int v2), (3, .int v3), (4, .int v4), (5, .int v5)]) C dM_instantiate_135 (by decide) rfl ?_
    refine gx_aload_n C dM_instantiate_137 1 rfl rfl ?_
    refine gx_get C mo_this hi_M 4 (by decide) fl_M_13 rfl dM_instantiate_138 ?_
    refine gx_iload C dM_instantiate_141 0 rfl ?_
    refine gx_iconst (v := 1) C dM_instantiate_143 (by decide) ?_
    obtain ⟨hin, hs⟩ := hs
    refine gx_zast C ma_lives hin (by decide) dM_instantiate_144 (fun S3 eS3 => ?_)
    replace hs := hs S3 eS3
    refine gx_aload_n C dM_instantiate_145 1 rfl rfl ?_
    refine gx_get C mo_this hi_M 5 (by decide) fl_M_17 rfl dM_instantiate_146 ?_
    refine gx_iload C dM_instantiate_149 0 rfl ?_
    refine gx_iload C dM_instantiate_151 6 rfl ?_
    obtain ⟨hin, hs⟩ := hs
    refine gx_iast C ma_addresses hin dM_instantiate_153 (fun S4 eS4 => ?_)
    replace hs := hs S4 eS4
    refine gx_aload_n C dM_instantiate_154 1 rfl rfl ?_
    refine gx_get C mo_this hi_M 6 (by decide) fl_M_20 rfl dM_instantiate_155 ?_
    refine gx_iload C dM_instantiate_158 0 rfl ?_
    refine gx_iload_n C dM_instantiate_160 4 rfl rfl ?_
    obtain ⟨hin, hs⟩ := hs
    refine gx_iast C ma_sizes hin dM_instantiate_161 (fun S5 eS5 => ?_)
    replace hs := hs S5 eS5
    refine gx_aload_n C dM_instantiate_162 1 rfl rfl ?_
    refine gx_get C mo_this hi_M 7 (by decide) fl_M_23 rfl dM_instantiate_163 ?_
    refine gx_iload C dM_instantiate_166 0 rfl ?_
    refine gx_iconst (v := 0) C dM_instantiate_168 (by decide) ?_
    obtain ⟨hin, hs⟩ := hs
    refine gx_iast C ma_counts hin dM_instantiate_169 (fun S6 eS6 => ?_)
    replace hs := hs S6 eS6
    refine gx_aload_n C dM_instantiate_170 1 rfl rfl ?_
    refine gx_get C mo_this hi_M 8 (by decide) fl_M_26 rfl dM_instantiate_171 ?_
    refine gx_iload C dM_instantiate_174 6 rfl ?_
    refine gx_iconst (v := 1) C dM_instantiate_176 (by decide) ?_
    refine gx_iadd C dM_instantiate_177 ?_
    refine gx_iload_n C dM_instantiate_178 3 rfl rfl ?_
    obtain ⟨hin, hs⟩ := hs
    refine gx_iast C ma_word hin dM_instantiate_179 (fun S7 eS7 => ?_)
    replace hs := hs S7 eS7
    refine gx_iconst (v := 0) C dM_instantiate_180 (by decide) ?_
    refine gx_top (fun y8 ey8 => ?_)
    replace hs := hs y8 ey8
    refine gx_istore (L' := [(7, .int y8), (6, .int r2), (0, .ref (o 0)), (1, .int v1), (2, .int v2), (3, .int v3), (4, .int v4), (5, .int v5)]) C dM_instantiate_181 (by decide) rfl ?_
    exact gx_sub [2, 3, 4, 5, 6, 7, 1, 0] rfl hs
  · have hs := hf hc
    refine gx_aload_n C dM_instantiate_124 0 rfl rfl ?_
    refine gx_iconst (v := 3) C dM_instantiate_125 (by decide) ?_
    refine gx_put C mo_this hi_M tyM tyM_ok nmM 0 (by decide) fl_M_58 rfl (by decide +kernel) (Nat.le_of_ble_eq_true rfl) (mp_thrown _ _) dM_instantiate_126 (fun S9 eS9 => ?_)
    replace hs := hs S9 eS9
    refine gx_iconst (v := 0) C dM_instantiate_129 (by decide) ?_
    exact gx_iret C hr hlocks dM_instantiate_130 hs
set_option maxHeartbeats 4000000 in
set_option maxRecDepth 100000 in
theorem wk_M_instantiate_183 {l : Launch} {dC : Nat → ClassId} {dI : Nat → Nat → Nat} {cI cZ : ClassId} {o : Nat → Nat}  {p : Program} {e : Env} {s : State} {m : MethodId} {args : Array Value} {below : List Frame} {meth : Method} {c : Code} {A : Nat → Prop} {post : Int32 → GS → Prop} (C : GC p s m args c cM_instantiate 8 RM wsA (dC, dI) gx_cl [(cI, .int), (cZ, .boolean)] A) (hr : meth.sig.returnType = (some .int)) (hlocks : meth.locks = false) (S : GS) (v1 : Int32) (v2 : Int32) (v3 : Int32) (v4 : Int32) (v5 : Int32) (v6 : Int32) (v7 : Int32) (hs : sp_M_instantiate post (vh_M_instantiate o (GV p l e ({ frames := 4, cells := 0, slots := 0, locals := 91 }) s m args below meth c (MQ below (va_Qi post (GB (mw cI cZ o) (dC, dI) gx_cl [(cI, .int), (cZ, .boolean)] A) A) args s 0 0 A) 8 (dC, dI) gx_cl A (mw cI cZ o))) 183 S [v1, v2, v3, v4, v5, v6, v7]) : GV p l e ({ frames := 4, cells := 0, slots := 0, locals := 91 }) s m args below meth c (MQ below (va_Qi post (GB (mw cI cZ o) (dC, dI) gx_cl [(cI, .int), (cZ, .boolean)] A) A) args s 0 0 A) 8 (dC, dI) gx_cl A (mw cI cZ o) S 183 [(0, .ref (o 0)), (1, .int v1), (2, .int v2), (3, .int v3), (4, .int v4), (5, .int v5), (6, .int v6), (7, .int v7)] [] := by
  refine gx_iload C dM_instantiate_183 7 rfl ?_
  refine gx_iload_n C dM_instantiate_185 3 rfl rfl ?_
  obtain ⟨ht, hf⟩ := hs
  refine gx_icmp_ge C dM_instantiate_186 208 rfl (fun hc => ?_) (fun hc => ?_)
  · have hs := ht hc
    refine gx_aload_n C dM_instantiate_208 0 rfl rfl ?_
    refine gx_iload_n C dM_instantiate_209 2 rfl rfl ?_
    refine gx_callv (As := [.int v2]) (rest := []) C (mt_M_comes l dC dI cI cZ o  _ _ _ hs) (gx_cwV C 1 ln_M_95 im_M_comes se_M_comes in_CountedObjectsModel cd_M_comes rfl rfl (by decide +kernel) ⟨Nat.le_of_ble_eq_true rfl, Nat.le_of_ble_eq_true rfl⟩) mo_this rfl (Nat.le_of_ble_eq_true rfl) dM_instantiate_210 (fun S1 => mw_ad _ S1) rfl (fun S1 hs => ?_)
    refine gx_aload_n C dM_instantiate_213 0 rfl rfl ?_
    refine gx_get C mo_this hi_M 3 (by decide) fl_M_7 rfl dM_instantiate_214 ?_
    refine gx_iload_n C dM_instantiate_217 1 rfl rfl ?_
    obtain ⟨hin, hs⟩ := hs
    refine gx_iald C ma_registers hin dM_instantiate_218 ?_
    refine gx_top (fun y3 ey3 => ?_)
    replace hs := hs y3 ey3
    refine gx_istore (L' := [(7, .int y3), (0, .ref (o 0)), (1, .int v1), (2, .int v2), (3, .int v3), (4, .int v4), (5, .int v5), (6, .int v6)]) C dM_instantiate_219 (by decide) rfl ?_
    refine gx_aload_n C dM_instantiate_221 1 rfl rfl ?_
    refine gx_get C mo_this hi_M 3 (by decide) fl_M_7 rfl dM_instantiate_222 ?_
    refine gx_iload_n C dM_instantiate_225 2 rfl rfl ?_
    refine gx_iconst (v := 2) C dM_instantiate_226 (by decide) ?_
    refine gx_iload C dM_instantiate_227 7 rfl ?_
    refine gx_imul C dM_instantiate_229 ?_
    obtain ⟨hin, hs⟩ := hs
    refine gx_iast C ma_registers hin dM_instantiate_230 (fun S4 eS4 => ?_)
    replace hs := hs S4 eS4
    refine gx_aload_n C dM_instantiate_231 1 rfl rfl ?_
    refine gx_iload C dM_instantiate_232 0 rfl ?_
    refine gx_iconst (v := 2) C dM_instantiate_234 (by decide) ?_
    refine gx_iload C dM_instantiate_235 7 rfl ?_
    refine gx_imul C dM_instantiate_237 ?_
    refine gx_calli (As := [.int y3, .int (2 * v6)]) (rest := []) C (mt_M_replace l dC dI cI cZ o  _ _ _ _ hs) (gx_cwV C 2 ln_M_122 im_M_replace se_M_replace in_CountedObjectsModel cd_M_replace rfl rfl (by decide +kernel) ⟨Nat.le_of_ble_eq_true rfl, Nat.le_of_ble_eq_true rfl⟩) mo_this rfl (Nat.le_of_ble_eq_true rfl) dM_instantiate_238 (fun S1 => mw_ad _ S1) rfl (fun r6 S5 hs => ?_)
    refine gx_istore (L' := [(7, .int r6), (0, .ref (o 0)), (1, .int v1), (2, .int v2), (3, .int v3), (4, .int v4), (5, .int v5), (6, .int v6)]) C dM_instantiate_241 (by decide) rfl ?_
    refine gx_iconst (v := 2) C dM_instantiate_243 (by decide) ?_
    refine gx_iload C dM_instantiate_244 7 rfl ?_
    refine gx_imul C dM_instantiate_246 ?_
    exact gx_iret C hr hlocks dM_instantiate_247 hs
  · have hs := hf hc
    refine gx_aload_n C dM_instantiate_189 0 rfl rfl ?_
    refine gx_get C mo_this hi_M 8 (by decide) fl_M_26 rfl dM_instantiate_190 ?_
    refine gx_iload C dM_instantiate_193 5 rfl ?_
    refine gx_iconst (v := 2) C dM_instantiate_195 (by decide) ?_
    refine gx_iadd C dM_instantiate_196 ?_
    refine gx_iload C dM_instantiate_197 7 rfl ?_
    refine gx_iadd C dM_instantiate_199 ?_
    refine gx_iconst (v := 0) C dM_instantiate_200 (by decide) ?_
    obtain ⟨hin, hs⟩ := hs
    refine gx_iast C ma_word hin dM_instantiate_201 (fun S7 eS7 => ?_)
    replace hs := hs S7 eS7
    refine gx_iinc (v0 := 1) (f := fun v => [(7, .int v), (0, .ref (o 0)), (1, .int v1), (2, .int v2), (3, .int v3), (4, .int v4), (5, .int v5), (6, .int v6)]) C dM_instantiate_202 7 rfl (by decide) (by decide) (fun _ => rfl) (fun y8 ey8 => ?_)
    replace hs := hs y8 ey8
    refine gx_goto C dM_instantiate_205 183 rfl ?_
    exact gx_sub [1, 2, 3, 4, 5, 6, 7, 0] rfl hs
set_option maxHeartbeats 4000000 in
set_option maxRecDepth 100000 in
theorem mt_M_instantiate (l : Launch) (dC : Nat → ClassId) (dI : Nat → Nat → Nat) (cI cZ : ClassId) (o : Nat → Nat) (v1 : Int32) (v2 : Int32) (v3 : Int32) (S : GS) (post : Int32 → GS → Prop) (h : wp_M_instantiate [v1, v2, v3] S post) : MetI l yM_instantiate (Cond.code yM_instantiate cM_instantiate 8 (some .int) :: wsA) ({ frames := 4, cells := 0, slots := 0, locals := 91 }) (dC, dI) gx_cl [(cI, .int), (cZ, .boolean)] (mw cI cZ o) [.ref (o 0), .int v1, .int v2, .int v3] S post := by
  refine gx_metI (by decide) wsA_good (Nat.le_of_ble_eq_true rfl) ?_
  intro p e s m args below meth c A C hr hlocks
  refine h (vh_M_instantiate o (GV p l e ({ frames := 4, cells := 0, slots := 0, locals := 91 }) s m args below meth c (MQ below (va_Qi post (GB (mw cI cZ o) (dC, dI) gx_cl [(cI, .int), (cZ, .boolean)] A) A) args s 0 0 A) 8 (dC, dI) gx_cl A (mw cI cZ o))) (fun h S xs hs => ?_)
  unfold sp_M_instantiate at hs
  split at hs
  · exact wk_M_instantiate_0 C hr hlocks _ _ _ _ hs
  · exact wk_M_instantiate_47 C hr hlocks _ _ _ _ hs
  · exact wk_M_instantiate_73 C hr hlocks _ _ _ _ _ hs
  · exact wk_M_instantiate_119 C hr hlocks _ _ _ _ _ _ hs
  · exact wk_M_instantiate_183 C hr hlocks _ _ _ _ _ _ _ _ hs
  · exact hs.elim
/-- CountedObjectsModel.set(II)I: a step from head to head -/
def sp_M_set (post : Int32 → GS → Prop) (V : Nat → GS → List Int32 → Prop) (h : Nat) (S : GS) (xs : List Int32) : Prop := match h, xs with
  | 0, [v1, v2] => wp_M_isRegister  [v1] S (fun r2 S1 => ((¬ r2 = 0 → wp_M_isValue  [v2] S1 (fun r4 S3 => ((¬ r4 = 0 → (∀ S5 : GS, S5 = gx_set 100 0 0 S3 → (((S5 100 0) = 0 → V 37 S5 [v1, v2]) ∧ (¬ (S5 100 0) = 0 → post 0 S5)))) ∧ (r4 = 0 → (∀ S6 : GS, S6 = gx_set 100 0 2 S3 → (((S6 100 0) = 0 → V 37 S6 [v1, v2]) ∧ (¬ (S6 100 0) = 0 → post 0 S6))))))) ∧ (r2 = 0 → (∀ S7 : GS, S7 = gx_set 100 0 1 S1 → (((S7 100 0) = 0 → V 37 S7 [v1, v2]) ∧ (¬ (S7 100 0) = 0 → post 0 S7))))))
  | 37, [v1, v2] => (vp_in v1 8 ∧ ∀ y1 : Int32, y1 = S 0 (v1).toNatClampNeg → (vp_in v1 8 ∧ ∀ S2 : GS, S2 = gx_set 0 (v1).toNatClampNeg v2 S → wp_M_replace  [y1, v2] S2 (fun r4 S3 => post r4 S3)))
  | _, _ => False
def wp_M_set (xs : List Int32) (S : GS) (post : Int32 → GS → Prop) : Prop := ∀ V : Nat → GS → List Int32 → Prop, (∀ h S xs, sp_M_set post V h S xs → V h S xs) → V 0 S xs
def vh_M_set (o : Nat → Nat) (G : GS → Nat → List (Nat × Value) → List Value → Prop) (h : Nat) (S : GS) (xs : List Int32) : Prop := match h, xs with
  | 0, [v1, v2] => G S 0 [(0, .ref (o 0)), (1, .int v1), (2, .int v2)] []
  | 37, [v1, v2] => G S 37 [(0, .ref (o 0)), (1, .int v1), (2, .int v2)] []
  | _, _ => True
set_option maxHeartbeats 4000000 in
set_option maxRecDepth 100000 in
theorem wk_M_set_0 {l : Launch} {dC : Nat → ClassId} {dI : Nat → Nat → Nat} {cI cZ : ClassId} {o : Nat → Nat}  {p : Program} {e : Env} {s : State} {m : MethodId} {args : Array Value} {below : List Frame} {meth : Method} {c : Code} {A : Nat → Prop} {post : Int32 → GS → Prop} (C : GC p s m args c cM_set 4 RM wsA (dC, dI) gx_cl [(cI, .int), (cZ, .boolean)] A) (hr : meth.sig.returnType = (some .int)) (hlocks : meth.locks = false) (S : GS) (v1 : Int32) (v2 : Int32) (hs : sp_M_set post (vh_M_set o (GV p l e ({ frames := 4, cells := 0, slots := 0, locals := 88 }) s m args below meth c (MQ below (va_Qi post (GB (mw cI cZ o) (dC, dI) gx_cl [(cI, .int), (cZ, .boolean)] A) A) args s 0 0 A) 4 (dC, dI) gx_cl A (mw cI cZ o))) 0 S [v1, v2]) : GV p l e ({ frames := 4, cells := 0, slots := 0, locals := 88 }) s m args below meth c (MQ below (va_Qi post (GB (mw cI cZ o) (dC, dI) gx_cl [(cI, .int), (cZ, .boolean)] A) A) args s 0 0 A) 4 (dC, dI) gx_cl A (mw cI cZ o) S 0 [(0, .ref (o 0)), (1, .int v1), (2, .int v2)] [] := by
  refine gx_aload_n C dM_set_0 0 rfl rfl ?_
  refine gx_iload_n C dM_set_1 1 rfl rfl ?_
  refine gx_calls (As := [.int v1]) (rest := [.ref (o 0)]) C (mt_M_isRegister l dC dI cI cZ o  _ _ _ hs) (gx_cwS C 1 ln_M_107 sm_M_isRegister in_CountedObjectsModel cd_M_isRegister rfl rfl (by decide +kernel) ⟨Nat.le_of_ble_eq_true rfl, Nat.le_of_ble_eq_true rfl⟩) rfl (Nat.le_of_ble_eq_true rfl) dM_set_2 (fun S1 => mw_ad _ S1) rfl (fun r2 S1 hs => ?_)
  obtain ⟨ht, hf⟩ := hs
  refine gx_if_ne C dM_set_5 12 rfl (fun hc => ?_) (fun hc => ?_)
  · have hs := ht hc
    refine gx_aload_n C dM_set_12 0 rfl rfl ?_
    refine gx_iload_n C dM_set_13 2 rfl rfl ?_
    refine gx_calli (As := [.int v2]) (rest := [.ref (o 0)]) C (mt_M_isValue l dC dI cI cZ o  _ _ _ hs) (gx_cwV C 1 ln_M_110 im_M_isValue se_M_isValue in_CountedObjectsModel cd_M_isValue rfl rfl (by decide +kernel) ⟨Nat.le_of_ble_eq_true rfl, Nat.le_of_ble_eq_true rfl⟩) mo_this rfl (Nat.le_of_ble_eq_true rfl) dM_set_14 (fun S1 => mw_ad _ S1) rfl (fun r4 S3 hs => ?_)
    obtain ⟨ht, hf⟩ := hs
    refine gx_if_ne C dM_set_17 24 rfl (fun hc => ?_) (fun hc => ?_)
    · have hs := ht hc
      refine gx_iconst (v := 0) C dM_set_24 (by decide) ?_
      refine gx_put C mo_this hi_M tyM tyM_ok nmM 0 (by decide) fl_M_58 rfl (by decide +kernel) (Nat.le_of_ble_eq_true rfl) (mp_thrown _ _) dM_set_25 (fun S5 eS5 => ?_)
      replace hs := hs S5 eS5
      refine gx_aload_n C dM_set_28 0 rfl rfl ?_
      refine gx_get C mo_this hi_M 0 (by decide) fl_M_58 rfl dM_set_29 ?_
      obtain ⟨ht, hf⟩ := hs
      refine gx_if_eq C dM_set_32 37 rfl (fun hc => ?_) (fun hc => ?_)
      · have hs := ht hc
        exact hs
      · have hs := hf hc
        refine gx_iconst (v := 0) C dM_set_35 (by decide) ?_
        exact gx_iret C hr hlocks dM_set_36 hs
    · have hs := hf hc
      refine gx_iconst (v := 2) C dM_set_20 (by decide) ?_
      refine gx_goto C dM_set_21 25 rfl ?_
      refine gx_put C mo_this hi_M tyM tyM_ok nmM 0 (by decide) fl_M_58 rfl (by decide +kernel) (Nat.le_of_ble_eq_true rfl) (mp_thrown _ _) dM_set_25 (fun S6 eS6 => ?_)
      replace hs := hs S6 eS6
      refine gx_aload_n C dM_set_28 0 rfl rfl ?_
      refine gx_get C mo_this hi_M 0 (by decide) fl_M_58 rfl dM_set_29 ?_
      obtain ⟨ht, hf⟩ := hs
      refine gx_if_eq C dM_set_32 37 rfl (fun hc => ?_) (fun hc => ?_)
      · have hs := ht hc
        exact hs
      · have hs := hf hc
        refine gx_iconst (v := 0) C dM_set_35 (by decide) ?_
        exact gx_iret C hr hlocks dM_set_36 hs
  · have hs := hf hc
    refine gx_iconst (v := 1) C dM_set_8 (by decide) ?_
    refine gx_goto C dM_set_9 25 rfl ?_
    refine gx_put C mo_this hi_M tyM tyM_ok nmM 0 (by decide) fl_M_58 rfl (by decide +kernel) (Nat.le_of_ble_eq_true rfl) (mp_thrown _ _) dM_set_25 (fun S7 eS7 => ?_)
    replace hs := hs S7 eS7
    refine gx_aload_n C dM_set_28 0 rfl rfl ?_
    refine gx_get C mo_this hi_M 0 (by decide) fl_M_58 rfl dM_set_29 ?_
    obtain ⟨ht, hf⟩ := hs
    refine gx_if_eq C dM_set_32 37 rfl (fun hc => ?_) (fun hc => ?_)
    · have hs := ht hc
      exact hs
    · have hs := hf hc
      refine gx_iconst (v := 0) C dM_set_35 (by decide) ?_
      exact gx_iret C hr hlocks dM_set_36 hs
set_option maxHeartbeats 4000000 in
set_option maxRecDepth 100000 in
theorem wk_M_set_37 {l : Launch} {dC : Nat → ClassId} {dI : Nat → Nat → Nat} {cI cZ : ClassId} {o : Nat → Nat}  {p : Program} {e : Env} {s : State} {m : MethodId} {args : Array Value} {below : List Frame} {meth : Method} {c : Code} {A : Nat → Prop} {post : Int32 → GS → Prop} (C : GC p s m args c cM_set 4 RM wsA (dC, dI) gx_cl [(cI, .int), (cZ, .boolean)] A) (hr : meth.sig.returnType = (some .int)) (hlocks : meth.locks = false) (S : GS) (v1 : Int32) (v2 : Int32) (hs : sp_M_set post (vh_M_set o (GV p l e ({ frames := 4, cells := 0, slots := 0, locals := 88 }) s m args below meth c (MQ below (va_Qi post (GB (mw cI cZ o) (dC, dI) gx_cl [(cI, .int), (cZ, .boolean)] A) A) args s 0 0 A) 4 (dC, dI) gx_cl A (mw cI cZ o))) 37 S [v1, v2]) : GV p l e ({ frames := 4, cells := 0, slots := 0, locals := 88 }) s m args below meth c (MQ below (va_Qi post (GB (mw cI cZ o) (dC, dI) gx_cl [(cI, .int), (cZ, .boolean)] A) A) args s 0 0 A) 4 (dC, dI) gx_cl A (mw cI cZ o) S 37 [(0, .ref (o 0)), (1, .int v1), (2, .int v2)] [] := by
  refine gx_aload_n C dM_set_37 0 rfl rfl ?_
  refine gx_get C mo_this hi_M 3 (by decide) fl_M_7 rfl dM_set_38 ?_
  refine gx_iload_n C dM_set_41 1 rfl rfl ?_
  obtain ⟨hin, hs⟩ := hs
  refine gx_iald C ma_registers hin dM_set_42 ?_
  refine gx_top (fun y1 ey1 => ?_)
  replace hs := hs y1 ey1
  refine gx_istore_n (L' := [(3, .int y1), (0, .ref (o 0)), (1, .int v1), (2, .int v2)]) C dM_set_43 rfl (by decide) rfl ?_
  refine gx_aload_n C dM_set_44 1 rfl rfl ?_
  refine gx_get C mo_this hi_M 3 (by decide) fl_M_7 rfl dM_set_45 ?_
  refine gx_iload_n C dM_set_48 2 rfl rfl ?_
  refine gx_iload_n C dM_set_49 3 rfl rfl ?_
  obtain ⟨hin, hs⟩ := hs
  refine gx_iast C ma_registers hin dM_set_50 (fun S2 eS2 => ?_)
  replace hs := hs S2 eS2
  refine gx_aload_n C dM_set_51 1 rfl rfl ?_
  refine gx_iload_n C dM_set_52 0 rfl rfl ?_
  refine gx_iload_n C dM_set_53 3 rfl rfl ?_
  refine gx_calli (As := [.int y1, .int v2]) (rest := []) C (mt_M_replace l dC dI cI cZ o  _ _ _ _ hs) (gx_cwV C 2 ln_M_122 im_M_replace se_M_replace in_CountedObjectsModel cd_M_replace rfl rfl (by decide +kernel) ⟨Nat.le_of_ble_eq_true rfl, Nat.le_of_ble_eq_true rfl⟩) mo_this rfl (Nat.le_of_ble_eq_true rfl) dM_set_54 (fun S1 => mw_ad _ S1) rfl (fun r4 S3 hs => ?_)
  exact gx_iret C hr hlocks dM_set_57 hs
set_option maxHeartbeats 4000000 in
set_option maxRecDepth 100000 in
theorem mt_M_set (l : Launch) (dC : Nat → ClassId) (dI : Nat → Nat → Nat) (cI cZ : ClassId) (o : Nat → Nat) (v1 : Int32) (v2 : Int32) (S : GS) (post : Int32 → GS → Prop) (h : wp_M_set [v1, v2] S post) : MetI l yM_set (Cond.code yM_set cM_set 4 (some .int) :: wsA) ({ frames := 4, cells := 0, slots := 0, locals := 88 }) (dC, dI) gx_cl [(cI, .int), (cZ, .boolean)] (mw cI cZ o) [.ref (o 0), .int v1, .int v2] S post := by
  refine gx_metI (by decide) wsA_good (Nat.le_of_ble_eq_true rfl) ?_
  intro p e s m args below meth c A C hr hlocks
  refine h (vh_M_set o (GV p l e ({ frames := 4, cells := 0, slots := 0, locals := 88 }) s m args below meth c (MQ below (va_Qi post (GB (mw cI cZ o) (dC, dI) gx_cl [(cI, .int), (cZ, .boolean)] A) A) args s 0 0 A) 4 (dC, dI) gx_cl A (mw cI cZ o))) (fun h S xs hs => ?_)
  unfold sp_M_set at hs
  split at hs
  · exact wk_M_set_0 C hr hlocks _ _ _ hs
  · exact wk_M_set_37 C hr hlocks _ _ _ hs
  · exact hs.elim
/-- CountedObjectsModel.register(I)I: a step from head to head -/
def sp_M_register (post : Int32 → GS → Prop) (V : Nat → GS → List Int32 → Prop) (h : Nat) (S : GS) (xs : List Int32) : Prop := match h, xs with
  | 0, [v1] => wp_M_isRegister  [v1] S (fun r2 S1 => ((r2 = 0 → (∀ S3 : GS, S3 = gx_set 100 0 1 S1 → ((¬ (S3 100 0) = 0 → post 0 S3) ∧ ((S3 100 0) = 0 → (vp_in v1 8 ∧ post (S3 0 (v1).toNatClampNeg) S3))))) ∧ (¬ r2 = 0 → (∀ S4 : GS, S4 = gx_set 100 0 0 S1 → ((¬ (S4 100 0) = 0 → post 0 S4) ∧ ((S4 100 0) = 0 → (vp_in v1 8 ∧ post (S4 0 (v1).toNatClampNeg) S4)))))))
  | _, _ => False
def wp_M_register (xs : List Int32) (S : GS) (post : Int32 → GS → Prop) : Prop := ∀ V : Nat → GS → List Int32 → Prop, (∀ h S xs, sp_M_register post V h S xs → V h S xs) → V 0 S xs
def vh_M_register (o : Nat → Nat) (G : GS → Nat → List (Nat × Value) → List Value → Prop) (h : Nat) (S : GS) (xs : List Int32) : Prop := match h, xs with
  | 0, [v1] => G S 0 [(0, .ref (o 0)), (1, .int v1)] []
  | _, _ => True
set_option maxHeartbeats 4000000 in
set_option maxRecDepth 100000 in
theorem wk_M_register_0 {l : Launch} {dC : Nat → ClassId} {dI : Nat → Nat → Nat} {cI cZ : ClassId} {o : Nat → Nat}  {p : Program} {e : Env} {s : State} {m : MethodId} {args : Array Value} {below : List Frame} {meth : Method} {c : Code} {A : Nat → Prop} {post : Int32 → GS → Prop} (C : GC p s m args c cM_register 2 RM wsA (dC, dI) gx_cl [(cI, .int), (cZ, .boolean)] A) (hr : meth.sig.returnType = (some .int)) (hlocks : meth.locks = false) (S : GS) (v1 : Int32) (hs : sp_M_register post (vh_M_register o (GV p l e ({ frames := 1, cells := 0, slots := 0, locals := 20 }) s m args below meth c (MQ below (va_Qi post (GB (mw cI cZ o) (dC, dI) gx_cl [(cI, .int), (cZ, .boolean)] A) A) args s 0 0 A) 2 (dC, dI) gx_cl A (mw cI cZ o))) 0 S [v1]) : GV p l e ({ frames := 1, cells := 0, slots := 0, locals := 20 }) s m args below meth c (MQ below (va_Qi post (GB (mw cI cZ o) (dC, dI) gx_cl [(cI, .int), (cZ, .boolean)] A) A) args s 0 0 A) 2 (dC, dI) gx_cl A (mw cI cZ o) S 0 [(0, .ref (o 0)), (1, .int v1)] [] := by
  refine gx_aload_n C dM_register_0 0 rfl rfl ?_
  refine gx_iload_n C dM_register_1 1 rfl rfl ?_
  refine gx_calls (As := [.int v1]) (rest := [.ref (o 0)]) C (mt_M_isRegister l dC dI cI cZ o  _ _ _ hs) (gx_cwS C 1 ln_M_107 sm_M_isRegister in_CountedObjectsModel cd_M_isRegister rfl rfl (by decide +kernel) ⟨Nat.le_of_ble_eq_true rfl, Nat.le_of_ble_eq_true rfl⟩) rfl (Nat.le_of_ble_eq_true rfl) dM_register_2 (fun S1 => mw_ad _ S1) rfl (fun r2 S1 hs => ?_)
  obtain ⟨ht, hf⟩ := hs
  refine gx_if_eq C dM_register_5 12 rfl (fun hc => ?_) (fun hc => ?_)
  · have hs := ht hc
    refine gx_iconst (v := 1) C dM_register_12 (by decide) ?_
    refine gx_put C mo_this hi_M tyM tyM_ok nmM 0 (by decide) fl_M_58 rfl (by decide +kernel) (Nat.le_of_ble_eq_true rfl) (mp_thrown _ _) dM_register_13 (fun S3 eS3 => ?_)
    replace hs := hs S3 eS3
    refine gx_aload_n C dM_register_16 0 rfl rfl ?_
    refine gx_get C mo_this hi_M 0 (by decide) fl_M_58 rfl dM_register_17 ?_
    obtain ⟨ht, hf⟩ := hs
    refine gx_if_ne C dM_register_20 32 rfl (fun hc => ?_) (fun hc => ?_)
    · have hs := ht hc
      refine gx_iconst (v := 0) C dM_register_32 (by decide) ?_
      exact gx_iret C hr hlocks dM_register_33 hs
    · have hs := hf hc
      refine gx_aload_n C dM_register_23 0 rfl rfl ?_
      refine gx_get C mo_this hi_M 3 (by decide) fl_M_7 rfl dM_register_24 ?_
      refine gx_iload_n C dM_register_27 1 rfl rfl ?_
      obtain ⟨hin, hs⟩ := hs
      refine gx_iald C ma_registers hin dM_register_28 ?_
      refine gx_goto C dM_register_29 33 rfl ?_
      exact gx_iret C hr hlocks dM_register_33 hs
  · have hs := hf hc
    refine gx_iconst (v := 0) C dM_register_8 (by decide) ?_
    refine gx_goto C dM_register_9 13 rfl ?_
    refine gx_put C mo_this hi_M tyM tyM_ok nmM 0 (by decide) fl_M_58 rfl (by decide +kernel) (Nat.le_of_ble_eq_true rfl) (mp_thrown _ _) dM_register_13 (fun S4 eS4 => ?_)
    replace hs := hs S4 eS4
    refine gx_aload_n C dM_register_16 0 rfl rfl ?_
    refine gx_get C mo_this hi_M 0 (by decide) fl_M_58 rfl dM_register_17 ?_
    obtain ⟨ht, hf⟩ := hs
    refine gx_if_ne C dM_register_20 32 rfl (fun hc => ?_) (fun hc => ?_)
    · have hs := ht hc
      refine gx_iconst (v := 0) C dM_register_32 (by decide) ?_
      exact gx_iret C hr hlocks dM_register_33 hs
    · have hs := hf hc
      refine gx_aload_n C dM_register_23 0 rfl rfl ?_
      refine gx_get C mo_this hi_M 3 (by decide) fl_M_7 rfl dM_register_24 ?_
      refine gx_iload_n C dM_register_27 1 rfl rfl ?_
      obtain ⟨hin, hs⟩ := hs
      refine gx_iald C ma_registers hin dM_register_28 ?_
      refine gx_goto C dM_register_29 33 rfl ?_
      exact gx_iret C hr hlocks dM_register_33 hs
set_option maxHeartbeats 4000000 in
set_option maxRecDepth 100000 in
theorem mt_M_register (l : Launch) (dC : Nat → ClassId) (dI : Nat → Nat → Nat) (cI cZ : ClassId) (o : Nat → Nat) (v1 : Int32) (S : GS) (post : Int32 → GS → Prop) (h : wp_M_register [v1] S post) : MetI l yM_register (Cond.code yM_register cM_register 2 (some .int) :: wsA) ({ frames := 1, cells := 0, slots := 0, locals := 20 }) (dC, dI) gx_cl [(cI, .int), (cZ, .boolean)] (mw cI cZ o) [.ref (o 0), .int v1] S post := by
  refine gx_metI (by decide) wsA_good (Nat.le_of_ble_eq_true rfl) ?_
  intro p e s m args below meth c A C hr hlocks
  refine h (vh_M_register o (GV p l e ({ frames := 1, cells := 0, slots := 0, locals := 20 }) s m args below meth c (MQ below (va_Qi post (GB (mw cI cZ o) (dC, dI) gx_cl [(cI, .int), (cZ, .boolean)] A) A) args s 0 0 A) 2 (dC, dI) gx_cl A (mw cI cZ o))) (fun h S xs hs => ?_)
  unfold sp_M_register at hs
  split at hs
  · exact wk_M_register_0 C hr hlocks _ _ hs
  · exact hs.elim
/-- CountedObjectsModel.hasField(II)Z: a step from head to head -/
def sp_M_hasField (post : Int32 → GS → Prop) (V : Nat → GS → List Int32 → Prop) (h : Nat) (S : GS) (xs : List Int32) : Prop := match h, xs with
  | 0, [v1, v2] => ((v2 < 0 → post 0 S) ∧ (¬ v2 < 0 → (vp_in (v1 / 2) 41 ∧ (((S 3 (v1 / 2).toNatClampNeg) ≤ v2 → post 0 S) ∧ (¬ (S 3 (v1 / 2).toNatClampNeg) ≤ v2 → post 1 S)))))
  | _, _ => False
def wp_M_hasField (xs : List Int32) (S : GS) (post : Int32 → GS → Prop) : Prop := ∀ V : Nat → GS → List Int32 → Prop, (∀ h S xs, sp_M_hasField post V h S xs → V h S xs) → V 0 S xs
def vh_M_hasField (o : Nat → Nat) (G : GS → Nat → List (Nat × Value) → List Value → Prop) (h : Nat) (S : GS) (xs : List Int32) : Prop := match h, xs with
  | 0, [v1, v2] => G S 0 [(0, .ref (o 0)), (1, .int v1), (2, .int v2)] []
  | _, _ => True
set_option maxHeartbeats 4000000 in
set_option maxRecDepth 100000 in
theorem wk_M_hasField_0 {l : Launch} {dC : Nat → ClassId} {dI : Nat → Nat → Nat} {cI cZ : ClassId} {o : Nat → Nat}  {p : Program} {e : Env} {s : State} {m : MethodId} {args : Array Value} {below : List Frame} {meth : Method} {c : Code} {A : Nat → Prop} {post : Int32 → GS → Prop} (C : GC p s m args c cM_hasField 3 RM wsA (dC, dI) gx_cl [(cI, .int), (cZ, .boolean)] A) (hr : meth.sig.returnType = (some .boolean)) (hlocks : meth.locks = false) (S : GS) (v1 : Int32) (v2 : Int32) (hs : sp_M_hasField post (vh_M_hasField o (GV p l e ({ frames := 0, cells := 0, slots := 0, locals := 0 }) s m args below meth c (MQ below (va_Qi post (GB (mw cI cZ o) (dC, dI) gx_cl [(cI, .int), (cZ, .boolean)] A) A) args s 0 0 A) 3 (dC, dI) gx_cl A (mw cI cZ o))) 0 S [v1, v2]) : GV p l e ({ frames := 0, cells := 0, slots := 0, locals := 0 }) s m args below meth c (MQ below (va_Qi post (GB (mw cI cZ o) (dC, dI) gx_cl [(cI, .int), (cZ, .boolean)] A) A) args s 0 0 A) 3 (dC, dI) gx_cl A (mw cI cZ o) S 0 [(0, .ref (o 0)), (1, .int v1), (2, .int v2)] [] := by
  refine gx_iload_n C dM_hasField_0 2 rfl rfl ?_
  obtain ⟨ht, hf⟩ := hs
  refine gx_if_lt C dM_hasField_1 20 rfl (fun hc => ?_) (fun hc => ?_)
  · have hs := ht hc
    refine gx_iconst (v := 0) C dM_hasField_20 (by decide) ?_
    exact gx_zret C hr hlocks dM_hasField_21 hs rfl
  · have hs := hf hc
    refine gx_iload_n C dM_hasField_4 2 rfl rfl ?_
    refine gx_aload_n C dM_hasField_5 0 rfl rfl ?_
    refine gx_get C mo_this hi_M 6 (by decide) fl_M_20 rfl dM_hasField_6 ?_
    refine gx_iload_n C dM_hasField_9 1 rfl rfl ?_
    refine gx_iconst (v := 2) C dM_hasField_10 (by decide) ?_
    refine gx_idiv C dM_hasField_11 (by decide) ?_
    obtain ⟨hin, hs⟩ := hs
    refine gx_iald C ma_sizes hin dM_hasField_12 ?_
    obtain ⟨ht, hf⟩ := hs
    refine gx_icmp_ge C dM_hasField_13 20 rfl (fun hc => ?_) (fun hc => ?_)
    · have hs := ht hc
      refine gx_iconst (v := 0) C dM_hasField_20 (by decide) ?_
      exact gx_zret C hr hlocks dM_hasField_21 hs rfl
    · have hs := hf hc
      refine gx_iconst (v := 1) C dM_hasField_16 (by decide) ?_
      refine gx_goto C dM_hasField_17 21 rfl ?_
      exact gx_zret C hr hlocks dM_hasField_21 hs rfl
set_option maxHeartbeats 4000000 in
set_option maxRecDepth 100000 in
theorem mt_M_hasField (l : Launch) (dC : Nat → ClassId) (dI : Nat → Nat → Nat) (cI cZ : ClassId) (o : Nat → Nat) (v1 : Int32) (v2 : Int32) (S : GS) (post : Int32 → GS → Prop) (h : wp_M_hasField [v1, v2] S post) : MetI l yM_hasField (Cond.code yM_hasField cM_hasField 3 (some .boolean) :: wsA) ({ frames := 0, cells := 0, slots := 0, locals := 0 }) (dC, dI) gx_cl [(cI, .int), (cZ, .boolean)] (mw cI cZ o) [.ref (o 0), .int v1, .int v2] S post := by
  refine gx_metI (by decide) wsA_good (Nat.le_of_ble_eq_true rfl) ?_
  intro p e s m args below meth c A C hr hlocks
  refine h (vh_M_hasField o (GV p l e ({ frames := 0, cells := 0, slots := 0, locals := 0 }) s m args below meth c (MQ below (va_Qi post (GB (mw cI cZ o) (dC, dI) gx_cl [(cI, .int), (cZ, .boolean)] A) A) args s 0 0 A) 3 (dC, dI) gx_cl A (mw cI cZ o))) (fun h S xs hs => ?_)
  unfold sp_M_hasField at hs
  split at hs
  · exact wk_M_hasField_0 C hr hlocks _ _ _ hs
  · exact hs.elim
/-- CountedObjectsModel.fetch(II)I: a step from head to head -/
def sp_M_fetch (post : Int32 → GS → Prop) (V : Nat → GS → List Int32 → Prop) (h : Nat) (S : GS) (xs : List Int32) : Prop := match h, xs with
  | 0, [v1, v2] => wp_M_isObject  [v1] S (fun r2 S1 => ((¬ r2 = 0 → wp_M_hasField  [v1, v2] S1 (fun r4 S3 => ((¬ r4 = 0 → (∀ S5 : GS, S5 = gx_set 100 0 0 S3 → ((¬ (S5 100 0) = 0 → post 0 S5) ∧ ((S5 100 0) = 0 → (vp_in (v1 / 2) 41 ∧ (vp_in (((S5 2 (v1 / 2).toNatClampNeg) + 2) + v2) 400 ∧ post (S5 5 (((S5 2 (v1 / 2).toNatClampNeg) + 2) + v2).toNatClampNeg) S5)))))) ∧ (r4 = 0 → (∀ S6 : GS, S6 = gx_set 100 0 2 S3 → ((¬ (S6 100 0) = 0 → post 0 S6) ∧ ((S6 100 0) = 0 → (vp_in (v1 / 2) 41 ∧ (vp_in (((S6 2 (v1 / 2).toNatClampNeg) + 2) + v2) 400 ∧ post (S6 5 (((S6 2 (v1 / 2).toNatClampNeg) + 2) + v2).toNatClampNeg) S6))))))))) ∧ (r2 = 0 → (∀ S7 : GS, S7 = gx_set 100 0 1 S1 → ((¬ (S7 100 0) = 0 → post 0 S7) ∧ ((S7 100 0) = 0 → (vp_in (v1 / 2) 41 ∧ (vp_in (((S7 2 (v1 / 2).toNatClampNeg) + 2) + v2) 400 ∧ post (S7 5 (((S7 2 (v1 / 2).toNatClampNeg) + 2) + v2).toNatClampNeg) S7))))))))
  | _, _ => False
def wp_M_fetch (xs : List Int32) (S : GS) (post : Int32 → GS → Prop) : Prop := ∀ V : Nat → GS → List Int32 → Prop, (∀ h S xs, sp_M_fetch post V h S xs → V h S xs) → V 0 S xs
def vh_M_fetch (o : Nat → Nat) (G : GS → Nat → List (Nat × Value) → List Value → Prop) (h : Nat) (S : GS) (xs : List Int32) : Prop := match h, xs with
  | 0, [v1, v2] => G S 0 [(0, .ref (o 0)), (1, .int v1), (2, .int v2)] []
  | _, _ => True
set_option maxHeartbeats 4000000 in
set_option maxRecDepth 100000 in
theorem wk_M_fetch_0 {l : Launch} {dC : Nat → ClassId} {dI : Nat → Nat → Nat} {cI cZ : ClassId} {o : Nat → Nat}  {p : Program} {e : Env} {s : State} {m : MethodId} {args : Array Value} {below : List Frame} {meth : Method} {c : Code} {A : Nat → Prop} {post : Int32 → GS → Prop} (C : GC p s m args c cM_fetch 3 RM wsA (dC, dI) gx_cl [(cI, .int), (cZ, .boolean)] A) (hr : meth.sig.returnType = (some .int)) (hlocks : meth.locks = false) (S : GS) (v1 : Int32) (v2 : Int32) (hs : sp_M_fetch post (vh_M_fetch o (GV p l e ({ frames := 2, cells := 0, slots := 0, locals := 41 }) s m args below meth c (MQ below (va_Qi post (GB (mw cI cZ o) (dC, dI) gx_cl [(cI, .int), (cZ, .boolean)] A) A) args s 0 0 A) 3 (dC, dI) gx_cl A (mw cI cZ o))) 0 S [v1, v2]) : GV p l e ({ frames := 2, cells := 0, slots := 0, locals := 41 }) s m args below meth c (MQ below (va_Qi post (GB (mw cI cZ o) (dC, dI) gx_cl [(cI, .int), (cZ, .boolean)] A) A) args s 0 0 A) 3 (dC, dI) gx_cl A (mw cI cZ o) S 0 [(0, .ref (o 0)), (1, .int v1), (2, .int v2)] [] := by
  refine gx_aload_n C dM_fetch_0 0 rfl rfl ?_
  refine gx_aload_n C dM_fetch_1 0 rfl rfl ?_
  refine gx_iload_n C dM_fetch_2 1 rfl rfl ?_
  refine gx_calli (As := [.int v1]) (rest := [.ref (o 0)]) C (mt_M_isObject l dC dI cI cZ o  _ _ _ hs) (gx_cwV C 1 ln_M_65 im_M_isObject se_M_isObject in_CountedObjectsModel cd_M_isObject rfl rfl (by decide +kernel) ⟨Nat.le_of_ble_eq_true rfl, Nat.le_of_ble_eq_true rfl⟩) mo_this rfl (Nat.le_of_ble_eq_true rfl) dM_fetch_3 (fun S1 => mw_ad _ S1) rfl (fun r2 S1 hs => ?_)
  obtain ⟨ht, hf⟩ := hs
  refine gx_if_ne C dM_fetch_6 13 rfl (fun hc => ?_) (fun hc => ?_)
  · have hs := ht hc
    refine gx_aload_n C dM_fetch_13 0 rfl rfl ?_
    refine gx_iload_n C dM_fetch_14 1 rfl rfl ?_
    refine gx_iload_n C dM_fetch_15 2 rfl rfl ?_
    refine gx_calli (As := [.int v1, .int v2]) (rest := [.ref (o 0)]) C (mt_M_hasField l dC dI cI cZ o  _ _ _ _ hs) (gx_cwV C 2 ln_M_126 im_M_hasField se_M_hasField in_CountedObjectsModel cd_M_hasField rfl rfl (by decide +kernel) ⟨Nat.le_of_ble_eq_true rfl, Nat.le_of_ble_eq_true rfl⟩) mo_this rfl (Nat.le_of_ble_eq_true rfl) dM_fetch_16 (fun S1 => mw_ad _ S1) rfl (fun r4 S3 hs => ?_)
    obtain ⟨ht, hf⟩ := hs
    refine gx_if_ne C dM_fetch_19 26 rfl (fun hc => ?_) (fun hc => ?_)
    · have hs := ht hc
      refine gx_iconst (v := 0) C dM_fetch_26 (by decide) ?_
      refine gx_put C mo_this hi_M tyM tyM_ok nmM 0 (by decide) fl_M_58 rfl (by decide +kernel) (Nat.le_of_ble_eq_true rfl) (mp_thrown _ _) dM_fetch_27 (fun S5 eS5 => ?_)
      replace hs := hs S5 eS5
      refine gx_aload_n C dM_fetch_30 0 rfl rfl ?_
      refine gx_get C mo_this hi_M 0 (by decide) fl_M_58 rfl dM_fetch_31 ?_
      obtain ⟨ht, hf⟩ := hs
      refine gx_if_ne C dM_fetch_34 57 rfl (fun hc => ?_) (fun hc => ?_)
      · have hs := ht hc
        refine gx_iconst (v := 0) C dM_fetch_57 (by decide) ?_
        exact gx_iret C hr hlocks dM_fetch_58 hs
      · have hs := hf hc
        refine gx_aload_n C dM_fetch_37 0 rfl rfl ?_
        refine gx_get C mo_this hi_M 8 (by decide) fl_M_26 rfl dM_fetch_38 ?_
        refine gx_aload_n C dM_fetch_41 0 rfl rfl ?_
        refine gx_get C mo_this hi_M 5 (by decide) fl_M_17 rfl dM_fetch_42 ?_
        refine gx_iload_n C dM_fetch_45 1 rfl rfl ?_
        refine gx_iconst (v := 2) C dM_fetch_46 (by decide) ?_
        refine gx_idiv C dM_fetch_47 (by decide) ?_
        obtain ⟨hin, hs⟩ := hs
        refine gx_iald C ma_addresses hin dM_fetch_48 ?_
        refine gx_iconst (v := 2) C dM_fetch_49 (by decide) ?_
        refine gx_iadd C dM_fetch_50 ?_
        refine gx_iload_n C dM_fetch_51 2 rfl rfl ?_
        refine gx_iadd C dM_fetch_52 ?_
        obtain ⟨hin, hs⟩ := hs
        refine gx_iald C ma_word hin dM_fetch_53 ?_
        refine gx_goto C dM_fetch_54 58 rfl ?_
        exact gx_iret C hr hlocks dM_fetch_58 hs
    · have hs := hf hc
      refine gx_iconst (v := 2) C dM_fetch_22 (by decide) ?_
      refine gx_goto C dM_fetch_23 27 rfl ?_
      refine gx_put C mo_this hi_M tyM tyM_ok nmM 0 (by decide) fl_M_58 rfl (by decide +kernel) (Nat.le_of_ble_eq_true rfl) (mp_thrown _ _) dM_fetch_27 (fun S6 eS6 => ?_)
      replace hs := hs S6 eS6
      refine gx_aload_n C dM_fetch_30 0 rfl rfl ?_
      refine gx_get C mo_this hi_M 0 (by decide) fl_M_58 rfl dM_fetch_31 ?_
      obtain ⟨ht, hf⟩ := hs
      refine gx_if_ne C dM_fetch_34 57 rfl (fun hc => ?_) (fun hc => ?_)
      · have hs := ht hc
        refine gx_iconst (v := 0) C dM_fetch_57 (by decide) ?_
        exact gx_iret C hr hlocks dM_fetch_58 hs
      · have hs := hf hc
        refine gx_aload_n C dM_fetch_37 0 rfl rfl ?_
        refine gx_get C mo_this hi_M 8 (by decide) fl_M_26 rfl dM_fetch_38 ?_
        refine gx_aload_n C dM_fetch_41 0 rfl rfl ?_
        refine gx_get C mo_this hi_M 5 (by decide) fl_M_17 rfl dM_fetch_42 ?_
        refine gx_iload_n C dM_fetch_45 1 rfl rfl ?_
        refine gx_iconst (v := 2) C dM_fetch_46 (by decide) ?_
        refine gx_idiv C dM_fetch_47 (by decide) ?_
        obtain ⟨hin, hs⟩ := hs
        refine gx_iald C ma_addresses hin dM_fetch_48 ?_
        refine gx_iconst (v := 2) C dM_fetch_49 (by decide) ?_
        refine gx_iadd C dM_fetch_50 ?_
        refine gx_iload_n C dM_fetch_51 2 rfl rfl ?_
        refine gx_iadd C dM_fetch_52 ?_
        obtain ⟨hin, hs⟩ := hs
        refine gx_iald C ma_word hin dM_fetch_53 ?_
        refine gx_goto C dM_fetch_54 58 rfl ?_
        exact gx_iret C hr hlocks dM_fetch_58 hs
  · have hs := hf hc
    refine gx_iconst (v := 1) C dM_fetch_9 (by decide) ?_
    refine gx_goto C dM_fetch_10 27 rfl ?_
    refine gx_put C mo_this hi_M tyM tyM_ok nmM 0 (by decide) fl_M_58 rfl (by decide +kernel) (Nat.le_of_ble_eq_true rfl) (mp_thrown _ _) dM_fetch_27 (fun S7 eS7 => ?_)
    replace hs := hs S7 eS7
    refine gx_aload_n C dM_fetch_30 0 rfl rfl ?_
    refine gx_get C mo_this hi_M 0 (by decide) fl_M_58 rfl dM_fetch_31 ?_
    obtain ⟨ht, hf⟩ := hs
    refine gx_if_ne C dM_fetch_34 57 rfl (fun hc => ?_) (fun hc => ?_)
    · have hs := ht hc
      refine gx_iconst (v := 0) C dM_fetch_57 (by decide) ?_
      exact gx_iret C hr hlocks dM_fetch_58 hs
    · have hs := hf hc
      refine gx_aload_n C dM_fetch_37 0 rfl rfl ?_
      refine gx_get C mo_this hi_M 8 (by decide) fl_M_26 rfl dM_fetch_38 ?_
      refine gx_aload_n C dM_fetch_41 0 rfl rfl ?_
      refine gx_get C mo_this hi_M 5 (by decide) fl_M_17 rfl dM_fetch_42 ?_
      refine gx_iload_n C dM_fetch_45 1 rfl rfl ?_
      refine gx_iconst (v := 2) C dM_fetch_46 (by decide) ?_
      refine gx_idiv C dM_fetch_47 (by decide) ?_
      obtain ⟨hin, hs⟩ := hs
      refine gx_iald C ma_addresses hin dM_fetch_48 ?_
      refine gx_iconst (v := 2) C dM_fetch_49 (by decide) ?_
      refine gx_iadd C dM_fetch_50 ?_
      refine gx_iload_n C dM_fetch_51 2 rfl rfl ?_
      refine gx_iadd C dM_fetch_52 ?_
      obtain ⟨hin, hs⟩ := hs
      refine gx_iald C ma_word hin dM_fetch_53 ?_
      refine gx_goto C dM_fetch_54 58 rfl ?_
      exact gx_iret C hr hlocks dM_fetch_58 hs
set_option maxHeartbeats 4000000 in
set_option maxRecDepth 100000 in
theorem mt_M_fetch (l : Launch) (dC : Nat → ClassId) (dI : Nat → Nat → Nat) (cI cZ : ClassId) (o : Nat → Nat) (v1 : Int32) (v2 : Int32) (S : GS) (post : Int32 → GS → Prop) (h : wp_M_fetch [v1, v2] S post) : MetI l yM_fetch (Cond.code yM_fetch cM_fetch 3 (some .int) :: wsA) ({ frames := 2, cells := 0, slots := 0, locals := 41 }) (dC, dI) gx_cl [(cI, .int), (cZ, .boolean)] (mw cI cZ o) [.ref (o 0), .int v1, .int v2] S post := by
  refine gx_metI (by decide) wsA_good (Nat.le_of_ble_eq_true rfl) ?_
  intro p e s m args below meth c A C hr hlocks
  refine h (vh_M_fetch o (GV p l e ({ frames := 2, cells := 0, slots := 0, locals := 41 }) s m args below meth c (MQ below (va_Qi post (GB (mw cI cZ o) (dC, dI) gx_cl [(cI, .int), (cZ, .boolean)] A) A) args s 0 0 A) 3 (dC, dI) gx_cl A (mw cI cZ o))) (fun h S xs hs => ?_)
  unfold sp_M_fetch at hs
  split at hs
  · exact wk_M_fetch_0 C hr hlocks _ _ _ hs
  · exact hs.elim
/-- CountedObjectsModel.store(III)I: a step from head to head -/
def sp_M_store (post : Int32 → GS → Prop) (V : Nat → GS → List Int32 → Prop) (h : Nat) (S : GS) (xs : List Int32) : Prop := match h, xs with
  | 0, [v1, v2, v3] => wp_M_isObject  [v1] S (fun r2 S1 => ((¬ r2 = 0 → wp_M_hasField  [v1, v2] S1 (fun r4 S3 => ((¬ r4 = 0 → wp_M_isValue  [v3] S3 (fun r6 S5 => ((¬ r6 = 0 → (∀ S7 : GS, S7 = gx_set 100 0 0 S5 → (((S7 100 0) = 0 → V 51 S7 [v1, v2, v3]) ∧ (¬ (S7 100 0) = 0 → post 0 S7)))) ∧ (r6 = 0 → (∀ S8 : GS, S8 = gx_set 100 0 1 S5 → (((S8 100 0) = 0 → V 51 S8 [v1, v2, v3]) ∧ (¬ (S8 100 0) = 0 → post 0 S8))))))) ∧ (r4 = 0 → (∀ S9 : GS, S9 = gx_set 100 0 2 S3 → (((S9 100 0) = 0 → V 51 S9 [v1, v2, v3]) ∧ (¬ (S9 100 0) = 0 → post 0 S9))))))) ∧ (r2 = 0 → (∀ S10 : GS, S10 = gx_set 100 0 1 S1 → (((S10 100 0) = 0 → V 51 S10 [v1, v2, v3]) ∧ (¬ (S10 100 0) = 0 → post 0 S10))))))
  | 51, [v1, v2, v3] => (vp_in (v1 / 2) 41 ∧ ∀ y1 : Int32, y1 = ((S 2 (v1 / 2).toNatClampNeg) + 2) + v2 → (vp_in y1 400 ∧ ∀ y2 : Int32, y2 = S 5 (y1).toNatClampNeg → (vp_in y1 400 ∧ ∀ S3 : GS, S3 = gx_set 5 (y1).toNatClampNeg v3 S → wp_M_replace  [y2, v3] S3 (fun r5 S4 => post r5 S4))))
  | _, _ => False
def wp_M_store (xs : List Int32) (S : GS) (post : Int32 → GS → Prop) : Prop := ∀ V : Nat → GS → List Int32 → Prop, (∀ h S xs, sp_M_store post V h S xs → V h S xs) → V 0 S xs
def vh_M_store (o : Nat → Nat) (G : GS → Nat → List (Nat × Value) → List Value → Prop) (h : Nat) (S : GS) (xs : List Int32) : Prop := match h, xs with
  | 0, [v1, v2, v3] => G S 0 [(0, .ref (o 0)), (1, .int v1), (2, .int v2), (3, .int v3)] []
  | 51, [v1, v2, v3] => G S 51 [(0, .ref (o 0)), (1, .int v1), (2, .int v2), (3, .int v3)] []
  | _, _ => True
set_option maxHeartbeats 4000000 in
set_option maxRecDepth 100000 in
theorem wk_M_store_0 {l : Launch} {dC : Nat → ClassId} {dI : Nat → Nat → Nat} {cI cZ : ClassId} {o : Nat → Nat}  {p : Program} {e : Env} {s : State} {m : MethodId} {args : Array Value} {below : List Frame} {meth : Method} {c : Code} {A : Nat → Prop} {post : Int32 → GS → Prop} (C : GC p s m args c cM_store 6 RM wsA (dC, dI) gx_cl [(cI, .int), (cZ, .boolean)] A) (hr : meth.sig.returnType = (some .int)) (hlocks : meth.locks = false) (S : GS) (v1 : Int32) (v2 : Int32) (v3 : Int32) (hs : sp_M_store post (vh_M_store o (GV p l e ({ frames := 4, cells := 0, slots := 0, locals := 88 }) s m args below meth c (MQ below (va_Qi post (GB (mw cI cZ o) (dC, dI) gx_cl [(cI, .int), (cZ, .boolean)] A) A) args s 0 0 A) 6 (dC, dI) gx_cl A (mw cI cZ o))) 0 S [v1, v2, v3]) : GV p l e ({ frames := 4, cells := 0, slots := 0, locals := 88 }) s m args below meth c (MQ below (va_Qi post (GB (mw cI cZ o) (dC, dI) gx_cl [(cI, .int), (cZ, .boolean)] A) A) args s 0 0 A) 6 (dC, dI) gx_cl A (mw cI cZ o) S 0 [(0, .ref (o 0)), (1, .int v1), (2, .int v2), (3, .int v3)] [] := by
  refine gx_aload_n C dM_store_0 0 rfl rfl ?_
  refine gx_aload_n C dM_store_1 0 rfl rfl ?_
  refine gx_iload_n C dM_store_2 1 rfl rfl ?_
  refine gx_calli (As := [.int v1]) (rest := [.ref (o 0)]) C (mt_M_isObject l dC dI cI cZ o  _ _ _ hs) (gx_cwV C 1 ln_M_65 im_M_isObject se_M_isObject in_CountedObjectsModel cd_M_isObject rfl rfl (by decide +kernel) ⟨Nat.le_of_ble_eq_true rfl, Nat.le_of_ble_eq_true rfl⟩) mo_this rfl (Nat.le_of_ble_eq_true rfl) dM_store_3 (fun S1 => mw_ad _ S1) rfl (fun r2 S1 hs => ?_)
  obtain ⟨ht, hf⟩ := hs
  refine gx_if_ne C dM_store_6 13 rfl (fun hc => ?_) (fun hc => ?_)
  · have hs := ht hc
    refine gx_aload_n C dM_store_13 0 rfl rfl ?_
    refine gx_iload_n C dM_store_14 1 rfl rfl ?_
    refine gx_iload_n C dM_store_15 2 rfl rfl ?_
    refine gx_calli (As := [.int v1, .int v2]) (rest := [.ref (o 0)]) C (mt_M_hasField l dC dI cI cZ o  _ _ _ _ hs) (gx_cwV C 2 ln_M_126 im_M_hasField se_M_hasField in_CountedObjectsModel cd_M_hasField rfl rfl (by decide +kernel) ⟨Nat.le_of_ble_eq_true rfl, Nat.le_of_ble_eq_true rfl⟩) mo_this rfl (Nat.le_of_ble_eq_true rfl) dM_store_16 (fun S1 => mw_ad _ S1) rfl (fun r4 S3 hs => ?_)
    obtain ⟨ht, hf⟩ := hs
    refine gx_if_ne C dM_store_19 26 rfl (fun hc => ?_) (fun hc => ?_)
    · have hs := ht hc
      refine gx_aload_n C dM_store_26 0 rfl rfl ?_
      refine gx_iload_n C dM_store_27 3 rfl rfl ?_
      refine gx_calli (As := [.int v3]) (rest := [.ref (o 0)]) C (mt_M_isValue l dC dI cI cZ o  _ _ _ hs) (gx_cwV C 1 ln_M_110 im_M_isValue se_M_isValue in_CountedObjectsModel cd_M_isValue rfl rfl (by decide +kernel) ⟨Nat.le_of_ble_eq_true rfl, Nat.le_of_ble_eq_true rfl⟩) mo_this rfl (Nat.le_of_ble_eq_true rfl) dM_store_28 (fun S1 => mw_ad _ S1) rfl (fun r6 S5 hs => ?_)
      obtain ⟨ht, hf⟩ := hs
      refine gx_if_ne C dM_store_31 38 rfl (fun hc => ?_) (fun hc => ?_)
      · have hs := ht hc
        refine gx_iconst (v := 0) C dM_store_38 (by decide) ?_
        refine gx_put C mo_this hi_M tyM tyM_ok nmM 0 (by decide) fl_M_58 rfl (by decide +kernel) (Nat.le_of_ble_eq_true rfl) (mp_thrown _ _) dM_store_39 (fun S7 eS7 => ?_)
        replace hs := hs S7 eS7
        refine gx_aload_n C dM_store_42 0 rfl rfl ?_
        refine gx_get C mo_this hi_M 0 (by decide) fl_M_58 rfl dM_store_43 ?_
        obtain ⟨ht, hf⟩ := hs
        refine gx_if_eq C dM_store_46 51 rfl (fun hc => ?_) (fun hc => ?_)
        · have hs := ht hc
          exact hs
        · have hs := hf hc
          refine gx_iconst (v := 0) C dM_store_49 (by decide) ?_
          exact gx_iret C hr hlocks dM_store_50 hs
      · have hs := hf hc
        refine gx_iconst (v := 1) C dM_store_34 (by decide) ?_
        refine gx_goto C dM_store_35 39 rfl ?_
        refine gx_put C mo_this hi_M tyM tyM_ok nmM 0 (by decide) fl_M_58 rfl (by decide +kernel) (Nat.le_of_ble_eq_true rfl) (mp_thrown _ _) dM_store_39 (fun S8 eS8 => ?_)
        replace hs := hs S8 eS8
        refine gx_aload_n C dM_store_42 0 rfl rfl ?_
        refine gx_get C mo_this hi_M 0 (by decide) fl_M_58 rfl dM_store_43 ?_
        obtain ⟨ht, hf⟩ := hs
        refine gx_if_eq C dM_store_46 51 rfl (fun hc => ?_) (fun hc => ?_)
        · have hs := ht hc
          exact hs
        · have hs := hf hc
          refine gx_iconst (v := 0) C dM_store_49 (by decide) ?_
          exact gx_iret C hr hlocks dM_store_50 hs
    · have hs := hf hc
      refine gx_iconst (v := 2) C dM_store_22 (by decide) ?_
      refine gx_goto C dM_store_23 39 rfl ?_
      refine gx_put C mo_this hi_M tyM tyM_ok nmM 0 (by decide) fl_M_58 rfl (by decide +kernel) (Nat.le_of_ble_eq_true rfl) (mp_thrown _ _) dM_store_39 (fun S9 eS9 => ?_)
      replace hs := hs S9 eS9
      refine gx_aload_n C dM_store_42 0 rfl rfl ?_
      refine gx_get C mo_this hi_M 0 (by decide) fl_M_58 rfl dM_store_43 ?_
      obtain ⟨ht, hf⟩ := hs
      refine gx_if_eq C dM_store_46 51 rfl (fun hc => ?_) (fun hc => ?_)
      · have hs := ht hc
        exact hs
      · have hs := hf hc
        refine gx_iconst (v := 0) C dM_store_49 (by decide) ?_
        exact gx_iret C hr hlocks dM_store_50 hs
  · have hs := hf hc
    refine gx_iconst (v := 1) C dM_store_9 (by decide) ?_
    refine gx_goto C dM_store_10 39 rfl ?_
    refine gx_put C mo_this hi_M tyM tyM_ok nmM 0 (by decide) fl_M_58 rfl (by decide +kernel) (Nat.le_of_ble_eq_true rfl) (mp_thrown _ _) dM_store_39 (fun S10 eS10 => ?_)
    replace hs := hs S10 eS10
    refine gx_aload_n C dM_store_42 0 rfl rfl ?_
    refine gx_get C mo_this hi_M 0 (by decide) fl_M_58 rfl dM_store_43 ?_
    obtain ⟨ht, hf⟩ := hs
    refine gx_if_eq C dM_store_46 51 rfl (fun hc => ?_) (fun hc => ?_)
    · have hs := ht hc
      exact hs
    · have hs := hf hc
      refine gx_iconst (v := 0) C dM_store_49 (by decide) ?_
      exact gx_iret C hr hlocks dM_store_50 hs
set_option maxHeartbeats 4000000 in
set_option maxRecDepth 100000 in
theorem wk_M_store_51 {l : Launch} {dC : Nat → ClassId} {dI : Nat → Nat → Nat} {cI cZ : ClassId} {o : Nat → Nat}  {p : Program} {e : Env} {s : State} {m : MethodId} {args : Array Value} {below : List Frame} {meth : Method} {c : Code} {A : Nat → Prop} {post : Int32 → GS → Prop} (C : GC p s m args c cM_store 6 RM wsA (dC, dI) gx_cl [(cI, .int), (cZ, .boolean)] A) (hr : meth.sig.returnType = (some .int)) (hlocks : meth.locks = false) (S : GS) (v1 : Int32) (v2 : Int32) (v3 : Int32) (hs : sp_M_store post (vh_M_store o (GV p l e ({ frames := 4, cells := 0, slots := 0, locals := 88 }) s m args below meth c (MQ below (va_Qi post (GB (mw cI cZ o) (dC, dI) gx_cl [(cI, .int), (cZ, .boolean)] A) A) args s 0 0 A) 6 (dC, dI) gx_cl A (mw cI cZ o))) 51 S [v1, v2, v3]) : GV p l e ({ frames := 4, cells := 0, slots := 0, locals := 88 }) s m args below meth c (MQ below (va_Qi post (GB (mw cI cZ o) (dC, dI) gx_cl [(cI, .int), (cZ, .boolean)] A) A) args s 0 0 A) 6 (dC, dI) gx_cl A (mw cI cZ o) S 51 [(0, .ref (o 0)), (1, .int v1), (2, .int v2), (3, .int v3)] [] := by
  refine gx_aload_n C dM_store_51 0 rfl rfl ?_
  refine gx_get C mo_this hi_M 5 (by decide) fl_M_17 rfl dM_store_52 ?_
  refine gx_iload_n C dM_store_55 1 rfl rfl ?_
  refine gx_iconst (v := 2) C dM_store_56 (by decide) ?_
  refine gx_idiv C dM_store_57 (by decide) ?_
  obtain ⟨hin, hs⟩ := hs
  refine gx_iald C ma_addresses hin dM_store_58 ?_
  refine gx_iconst (v := 2) C dM_store_59 (by decide) ?_
  refine gx_iadd C dM_store_60 ?_
  refine gx_iload_n C dM_store_61 2 rfl rfl ?_
  refine gx_iadd C dM_store_62 ?_
  refine gx_top (fun y1 ey1 => ?_)
  replace hs := hs y1 ey1
  refine gx_istore (L' := [(4, .int y1), (0, .ref (o 0)), (1, .int v1), (2, .int v2), (3, .int v3)]) C dM_store_63 (by decide) rfl ?_
  refine gx_aload_n C dM_store_65 1 rfl rfl ?_
  refine gx_get C mo_this hi_M 8 (by decide) fl_M_26 rfl dM_store_66 ?_
  refine gx_iload C dM_store_69 0 rfl ?_
  obtain ⟨hin, hs⟩ := hs
  refine gx_iald C ma_word hin dM_store_71 ?_
  refine gx_top (fun y2 ey2 => ?_)
  replace hs := hs y2 ey2
  refine gx_istore (L' := [(5, .int y2), (4, .int y1), (0, .ref (o 0)), (1, .int v1), (2, .int v2), (3, .int v3)]) C dM_store_72 (by decide) rfl ?_
  refine gx_aload_n C dM_store_74 2 rfl rfl ?_
  refine gx_get C mo_this hi_M 8 (by decide) fl_M_26 rfl dM_store_75 ?_
  refine gx_iload C dM_store_78 1 rfl ?_
  refine gx_iload_n C dM_store_80 5 rfl rfl ?_
  obtain ⟨hin, hs⟩ := hs
  refine gx_iast C ma_word hin dM_store_81 (fun S3 eS3 => ?_)
  replace hs := hs S3 eS3
  refine gx_aload_n C dM_store_82 2 rfl rfl ?_
  refine gx_iload C dM_store_83 0 rfl ?_
  refine gx_iload_n C dM_store_85 5 rfl rfl ?_
  refine gx_calli (As := [.int y2, .int v3]) (rest := []) C (mt_M_replace l dC dI cI cZ o  _ _ _ _ hs) (gx_cwV C 2 ln_M_122 im_M_replace se_M_replace in_CountedObjectsModel cd_M_replace rfl rfl (by decide +kernel) ⟨Nat.le_of_ble_eq_true rfl, Nat.le_of_ble_eq_true rfl⟩) mo_this rfl (Nat.le_of_ble_eq_true rfl) dM_store_86 (fun S1 => mw_ad _ S1) rfl (fun r5 S4 hs => ?_)
  exact gx_iret C hr hlocks dM_store_89 hs
set_option maxHeartbeats 4000000 in
set_option maxRecDepth 100000 in
theorem mt_M_store (l : Launch) (dC : Nat → ClassId) (dI : Nat → Nat → Nat) (cI cZ : ClassId) (o : Nat → Nat) (v1 : Int32) (v2 : Int32) (v3 : Int32) (S : GS) (post : Int32 → GS → Prop) (h : wp_M_store [v1, v2, v3] S post) : MetI l yM_store (Cond.code yM_store cM_store 6 (some .int) :: wsA) ({ frames := 4, cells := 0, slots := 0, locals := 88 }) (dC, dI) gx_cl [(cI, .int), (cZ, .boolean)] (mw cI cZ o) [.ref (o 0), .int v1, .int v2, .int v3] S post := by
  refine gx_metI (by decide) wsA_good (Nat.le_of_ble_eq_true rfl) ?_
  intro p e s m args below meth c A C hr hlocks
  refine h (vh_M_store o (GV p l e ({ frames := 4, cells := 0, slots := 0, locals := 88 }) s m args below meth c (MQ below (va_Qi post (GB (mw cI cZ o) (dC, dI) gx_cl [(cI, .int), (cZ, .boolean)] A) A) args s 0 0 A) 6 (dC, dI) gx_cl A (mw cI cZ o))) (fun h S xs hs => ?_)
  unfold sp_M_store at hs
  split at hs
  · exact wk_M_store_0 C hr hlocks _ _ _ _ hs
  · exact wk_M_store_51 C hr hlocks _ _ _ _ hs
  · exact hs.elim
/-- CountedObjectsModel.type(I)I: a step from head to head -/
def sp_M_type (post : Int32 → GS → Prop) (V : Nat → GS → List Int32 → Prop) (h : Nat) (S : GS) (xs : List Int32) : Prop := match h, xs with
  | 0, [v1] => wp_M_isObject  [v1] S (fun r2 S1 => ((r2 = 0 → (∀ S3 : GS, S3 = gx_set 100 0 1 S1 → ((¬ (S3 100 0) = 0 → post 0 S3) ∧ ((S3 100 0) = 0 → (vp_in (v1 / 2) 41 ∧ (vp_in ((S3 2 (v1 / 2).toNatClampNeg) + 1) 400 ∧ post (S3 5 ((S3 2 (v1 / 2).toNatClampNeg) + 1).toNatClampNeg) S3)))))) ∧ (¬ r2 = 0 → (∀ S4 : GS, S4 = gx_set 100 0 0 S1 → ((¬ (S4 100 0) = 0 → post 0 S4) ∧ ((S4 100 0) = 0 → (vp_in (v1 / 2) 41 ∧ (vp_in ((S4 2 (v1 / 2).toNatClampNeg) + 1) 400 ∧ post (S4 5 ((S4 2 (v1 / 2).toNatClampNeg) + 1).toNatClampNeg) S4))))))))
  | _, _ => False
def wp_M_type (xs : List Int32) (S : GS) (post : Int32 → GS → Prop) : Prop := ∀ V : Nat → GS → List Int32 → Prop, (∀ h S xs, sp_M_type post V h S xs → V h S xs) → V 0 S xs
def vh_M_type (o : Nat → Nat) (G : GS → Nat → List (Nat × Value) → List Value → Prop) (h : Nat) (S : GS) (xs : List Int32) : Prop := match h, xs with
  | 0, [v1] => G S 0 [(0, .ref (o 0)), (1, .int v1)] []
  | _, _ => True
set_option maxHeartbeats 4000000 in
set_option maxRecDepth 100000 in
theorem wk_M_type_0 {l : Launch} {dC : Nat → ClassId} {dI : Nat → Nat → Nat} {cI cZ : ClassId} {o : Nat → Nat}  {p : Program} {e : Env} {s : State} {m : MethodId} {args : Array Value} {below : List Frame} {meth : Method} {c : Code} {A : Nat → Prop} {post : Int32 → GS → Prop} (C : GC p s m args c cM_type 2 RM wsA (dC, dI) gx_cl [(cI, .int), (cZ, .boolean)] A) (hr : meth.sig.returnType = (some .int)) (hlocks : meth.locks = false) (S : GS) (v1 : Int32) (hs : sp_M_type post (vh_M_type o (GV p l e ({ frames := 2, cells := 0, slots := 0, locals := 41 }) s m args below meth c (MQ below (va_Qi post (GB (mw cI cZ o) (dC, dI) gx_cl [(cI, .int), (cZ, .boolean)] A) A) args s 0 0 A) 2 (dC, dI) gx_cl A (mw cI cZ o))) 0 S [v1]) : GV p l e ({ frames := 2, cells := 0, slots := 0, locals := 41 }) s m args below meth c (MQ below (va_Qi post (GB (mw cI cZ o) (dC, dI) gx_cl [(cI, .int), (cZ, .boolean)] A) A) args s 0 0 A) 2 (dC, dI) gx_cl A (mw cI cZ o) S 0 [(0, .ref (o 0)), (1, .int v1)] [] := by
  refine gx_aload_n C dM_type_0 0 rfl rfl ?_
  refine gx_aload_n C dM_type_1 0 rfl rfl ?_
  refine gx_iload_n C dM_type_2 1 rfl rfl ?_
  refine gx_calli (As := [.int v1]) (rest := [.ref (o 0)]) C (mt_M_isObject l dC dI cI cZ o  _ _ _ hs) (gx_cwV C 1 ln_M_65 im_M_isObject se_M_isObject in_CountedObjectsModel cd_M_isObject rfl rfl (by decide +kernel) ⟨Nat.le_of_ble_eq_true rfl, Nat.le_of_ble_eq_true rfl⟩) mo_this rfl (Nat.le_of_ble_eq_true rfl) dM_type_3 (fun S1 => mw_ad _ S1) rfl (fun r2 S1 hs => ?_)
  obtain ⟨ht, hf⟩ := hs
  refine gx_if_eq C dM_type_6 13 rfl (fun hc => ?_) (fun hc => ?_)
  · have hs := ht hc
    refine gx_iconst (v := 1) C dM_type_13 (by decide) ?_
    refine gx_put C mo_this hi_M tyM tyM_ok nmM 0 (by decide) fl_M_58 rfl (by decide +kernel) (Nat.le_of_ble_eq_true rfl) (mp_thrown _ _) dM_type_14 (fun S3 eS3 => ?_)
    replace hs := hs S3 eS3
    refine gx_aload_n C dM_type_17 0 rfl rfl ?_
    refine gx_get C mo_this hi_M 0 (by decide) fl_M_58 rfl dM_type_18 ?_
    obtain ⟨ht, hf⟩ := hs
    refine gx_if_ne C dM_type_21 42 rfl (fun hc => ?_) (fun hc => ?_)
    · have hs := ht hc
      refine gx_iconst (v := 0) C dM_type_42 (by decide) ?_
      exact gx_iret C hr hlocks dM_type_43 hs
    · have hs := hf hc
      refine gx_aload_n C dM_type_24 0 rfl rfl ?_
      refine gx_get C mo_this hi_M 8 (by decide) fl_M_26 rfl dM_type_25 ?_
      refine gx_aload_n C dM_type_28 0 rfl rfl ?_
      refine gx_get C mo_this hi_M 5 (by decide) fl_M_17 rfl dM_type_29 ?_
      refine gx_iload_n C dM_type_32 1 rfl rfl ?_
      refine gx_iconst (v := 2) C dM_type_33 (by decide) ?_
      refine gx_idiv C dM_type_34 (by decide) ?_
      obtain ⟨hin, hs⟩ := hs
      refine gx_iald C ma_addresses hin dM_type_35 ?_
      refine gx_iconst (v := 1) C dM_type_36 (by decide) ?_
      refine gx_iadd C dM_type_37 ?_
      obtain ⟨hin, hs⟩ := hs
      refine gx_iald C ma_word hin dM_type_38 ?_
      refine gx_goto C dM_type_39 43 rfl ?_
      exact gx_iret C hr hlocks dM_type_43 hs
  · have hs := hf hc
    refine gx_iconst (v := 0) C dM_type_9 (by decide) ?_
    refine gx_goto C dM_type_10 14 rfl ?_
    refine gx_put C mo_this hi_M tyM tyM_ok nmM 0 (by decide) fl_M_58 rfl (by decide +kernel) (Nat.le_of_ble_eq_true rfl) (mp_thrown _ _) dM_type_14 (fun S4 eS4 => ?_)
    replace hs := hs S4 eS4
    refine gx_aload_n C dM_type_17 0 rfl rfl ?_
    refine gx_get C mo_this hi_M 0 (by decide) fl_M_58 rfl dM_type_18 ?_
    obtain ⟨ht, hf⟩ := hs
    refine gx_if_ne C dM_type_21 42 rfl (fun hc => ?_) (fun hc => ?_)
    · have hs := ht hc
      refine gx_iconst (v := 0) C dM_type_42 (by decide) ?_
      exact gx_iret C hr hlocks dM_type_43 hs
    · have hs := hf hc
      refine gx_aload_n C dM_type_24 0 rfl rfl ?_
      refine gx_get C mo_this hi_M 8 (by decide) fl_M_26 rfl dM_type_25 ?_
      refine gx_aload_n C dM_type_28 0 rfl rfl ?_
      refine gx_get C mo_this hi_M 5 (by decide) fl_M_17 rfl dM_type_29 ?_
      refine gx_iload_n C dM_type_32 1 rfl rfl ?_
      refine gx_iconst (v := 2) C dM_type_33 (by decide) ?_
      refine gx_idiv C dM_type_34 (by decide) ?_
      obtain ⟨hin, hs⟩ := hs
      refine gx_iald C ma_addresses hin dM_type_35 ?_
      refine gx_iconst (v := 1) C dM_type_36 (by decide) ?_
      refine gx_iadd C dM_type_37 ?_
      obtain ⟨hin, hs⟩ := hs
      refine gx_iald C ma_word hin dM_type_38 ?_
      refine gx_goto C dM_type_39 43 rfl ?_
      exact gx_iret C hr hlocks dM_type_43 hs
set_option maxHeartbeats 4000000 in
set_option maxRecDepth 100000 in
theorem mt_M_type (l : Launch) (dC : Nat → ClassId) (dI : Nat → Nat → Nat) (cI cZ : ClassId) (o : Nat → Nat) (v1 : Int32) (S : GS) (post : Int32 → GS → Prop) (h : wp_M_type [v1] S post) : MetI l yM_type (Cond.code yM_type cM_type 2 (some .int) :: wsA) ({ frames := 2, cells := 0, slots := 0, locals := 41 }) (dC, dI) gx_cl [(cI, .int), (cZ, .boolean)] (mw cI cZ o) [.ref (o 0), .int v1] S post := by
  refine gx_metI (by decide) wsA_good (Nat.le_of_ble_eq_true rfl) ?_
  intro p e s m args below meth c A C hr hlocks
  refine h (vh_M_type o (GV p l e ({ frames := 2, cells := 0, slots := 0, locals := 41 }) s m args below meth c (MQ below (va_Qi post (GB (mw cI cZ o) (dC, dI) gx_cl [(cI, .int), (cZ, .boolean)] A) A) args s 0 0 A) 2 (dC, dI) gx_cl A (mw cI cZ o))) (fun h S xs hs => ?_)
  unfold sp_M_type at hs
  split at hs
  · exact wk_M_type_0 C hr hlocks _ _ hs
  · exact hs.elim
/-- CountedObjectsModel.fields(I)I: a step from head to head -/
def sp_M_fields (post : Int32 → GS → Prop) (V : Nat → GS → List Int32 → Prop) (h : Nat) (S : GS) (xs : List Int32) : Prop := match h, xs with
  | 0, [v1] => wp_M_isObject  [v1] S (fun r2 S1 => ((r2 = 0 → (∀ S3 : GS, S3 = gx_set 100 0 1 S1 → ((¬ (S3 100 0) = 0 → post 0 S3) ∧ ((S3 100 0) = 0 → (vp_in (v1 / 2) 41 ∧ post (S3 3 (v1 / 2).toNatClampNeg) S3))))) ∧ (¬ r2 = 0 → (∀ S4 : GS, S4 = gx_set 100 0 0 S1 → ((¬ (S4 100 0) = 0 → post 0 S4) ∧ ((S4 100 0) = 0 → (vp_in (v1 / 2) 41 ∧ post (S4 3 (v1 / 2).toNatClampNeg) S4)))))))
  | _, _ => False
def wp_M_fields (xs : List Int32) (S : GS) (post : Int32 → GS → Prop) : Prop := ∀ V : Nat → GS → List Int32 → Prop, (∀ h S xs, sp_M_fields post V h S xs → V h S xs) → V 0 S xs
def vh_M_fields (o : Nat → Nat) (G : GS → Nat → List (Nat × Value) → List Value → Prop) (h : Nat) (S : GS) (xs : List Int32) : Prop := match h, xs with
  | 0, [v1] => G S 0 [(0, .ref (o 0)), (1, .int v1)] []
  | _, _ => True
set_option maxHeartbeats 4000000 in
set_option maxRecDepth 100000 in
theorem wk_M_fields_0 {l : Launch} {dC : Nat → ClassId} {dI : Nat → Nat → Nat} {cI cZ : ClassId} {o : Nat → Nat}  {p : Program} {e : Env} {s : State} {m : MethodId} {args : Array Value} {below : List Frame} {meth : Method} {c : Code} {A : Nat → Prop} {post : Int32 → GS → Prop} (C : GC p s m args c cM_fields 2 RM wsA (dC, dI) gx_cl [(cI, .int), (cZ, .boolean)] A) (hr : meth.sig.returnType = (some .int)) (hlocks : meth.locks = false) (S : GS) (v1 : Int32) (hs : sp_M_fields post (vh_M_fields o (GV p l e ({ frames := 2, cells := 0, slots := 0, locals := 41 }) s m args below meth c (MQ below (va_Qi post (GB (mw cI cZ o) (dC, dI) gx_cl [(cI, .int), (cZ, .boolean)] A) A) args s 0 0 A) 2 (dC, dI) gx_cl A (mw cI cZ o))) 0 S [v1]) : GV p l e ({ frames := 2, cells := 0, slots := 0, locals := 41 }) s m args below meth c (MQ below (va_Qi post (GB (mw cI cZ o) (dC, dI) gx_cl [(cI, .int), (cZ, .boolean)] A) A) args s 0 0 A) 2 (dC, dI) gx_cl A (mw cI cZ o) S 0 [(0, .ref (o 0)), (1, .int v1)] [] := by
  refine gx_aload_n C dM_fields_0 0 rfl rfl ?_
  refine gx_aload_n C dM_fields_1 0 rfl rfl ?_
  refine gx_iload_n C dM_fields_2 1 rfl rfl ?_
  refine gx_calli (As := [.int v1]) (rest := [.ref (o 0)]) C (mt_M_isObject l dC dI cI cZ o  _ _ _ hs) (gx_cwV C 1 ln_M_65 im_M_isObject se_M_isObject in_CountedObjectsModel cd_M_isObject rfl rfl (by decide +kernel) ⟨Nat.le_of_ble_eq_true rfl, Nat.le_of_ble_eq_true rfl⟩) mo_this rfl (Nat.le_of_ble_eq_true rfl) dM_fields_3 (fun S1 => mw_ad _ S1) rfl (fun r2 S1 hs => ?_)
  obtain ⟨ht, hf⟩ := hs
  refine gx_if_eq C dM_fields_6 13 rfl (fun hc => ?_) (fun hc => ?_)
  · have hs := ht hc
    refine gx_iconst (v := 1) C dM_fields_13 (by decide) ?_
    refine gx_put C mo_this hi_M tyM tyM_ok nmM 0 (by decide) fl_M_58 rfl (by decide +kernel) (Nat.le_of_ble_eq_true rfl) (mp_thrown _ _) dM_fields_14 (fun S3 eS3 => ?_)
    replace hs := hs S3 eS3
    refine gx_aload_n C dM_fields_17 0 rfl rfl ?_
    refine gx_get C mo_this hi_M 0 (by decide) fl_M_58 rfl dM_fields_18 ?_
    obtain ⟨ht, hf⟩ := hs
    refine gx_if_ne C dM_fields_21 35 rfl (fun hc => ?_) (fun hc => ?_)
    · have hs := ht hc
      refine gx_iconst (v := 0) C dM_fields_35 (by decide) ?_
      exact gx_iret C hr hlocks dM_fields_36 hs
    · have hs := hf hc
      refine gx_aload_n C dM_fields_24 0 rfl rfl ?_
      refine gx_get C mo_this hi_M 6 (by decide) fl_M_20 rfl dM_fields_25 ?_
      refine gx_iload_n C dM_fields_28 1 rfl rfl ?_
      refine gx_iconst (v := 2) C dM_fields_29 (by decide) ?_
      refine gx_idiv C dM_fields_30 (by decide) ?_
      obtain ⟨hin, hs⟩ := hs
      refine gx_iald C ma_sizes hin dM_fields_31 ?_
      refine gx_goto C dM_fields_32 36 rfl ?_
      exact gx_iret C hr hlocks dM_fields_36 hs
  · have hs := hf hc
    refine gx_iconst (v := 0) C dM_fields_9 (by decide) ?_
    refine gx_goto C dM_fields_10 14 rfl ?_
    refine gx_put C mo_this hi_M tyM tyM_ok nmM 0 (by decide) fl_M_58 rfl (by decide +kernel) (Nat.le_of_ble_eq_true rfl) (mp_thrown _ _) dM_fields_14 (fun S4 eS4 => ?_)
    replace hs := hs S4 eS4
    refine gx_aload_n C dM_fields_17 0 rfl rfl ?_
    refine gx_get C mo_this hi_M 0 (by decide) fl_M_58 rfl dM_fields_18 ?_
    obtain ⟨ht, hf⟩ := hs
    refine gx_if_ne C dM_fields_21 35 rfl (fun hc => ?_) (fun hc => ?_)
    · have hs := ht hc
      refine gx_iconst (v := 0) C dM_fields_35 (by decide) ?_
      exact gx_iret C hr hlocks dM_fields_36 hs
    · have hs := hf hc
      refine gx_aload_n C dM_fields_24 0 rfl rfl ?_
      refine gx_get C mo_this hi_M 6 (by decide) fl_M_20 rfl dM_fields_25 ?_
      refine gx_iload_n C dM_fields_28 1 rfl rfl ?_
      refine gx_iconst (v := 2) C dM_fields_29 (by decide) ?_
      refine gx_idiv C dM_fields_30 (by decide) ?_
      obtain ⟨hin, hs⟩ := hs
      refine gx_iald C ma_sizes hin dM_fields_31 ?_
      refine gx_goto C dM_fields_32 36 rfl ?_
      exact gx_iret C hr hlocks dM_fields_36 hs
set_option maxHeartbeats 4000000 in
set_option maxRecDepth 100000 in
theorem mt_M_fields (l : Launch) (dC : Nat → ClassId) (dI : Nat → Nat → Nat) (cI cZ : ClassId) (o : Nat → Nat) (v1 : Int32) (S : GS) (post : Int32 → GS → Prop) (h : wp_M_fields [v1] S post) : MetI l yM_fields (Cond.code yM_fields cM_fields 2 (some .int) :: wsA) ({ frames := 2, cells := 0, slots := 0, locals := 41 }) (dC, dI) gx_cl [(cI, .int), (cZ, .boolean)] (mw cI cZ o) [.ref (o 0), .int v1] S post := by
  refine gx_metI (by decide) wsA_good (Nat.le_of_ble_eq_true rfl) ?_
  intro p e s m args below meth c A C hr hlocks
  refine h (vh_M_fields o (GV p l e ({ frames := 2, cells := 0, slots := 0, locals := 41 }) s m args below meth c (MQ below (va_Qi post (GB (mw cI cZ o) (dC, dI) gx_cl [(cI, .int), (cZ, .boolean)] A) A) args s 0 0 A) 2 (dC, dI) gx_cl A (mw cI cZ o))) (fun h S xs hs => ?_)
  unfold sp_M_fields at hs
  split at hs
  · exact wk_M_fields_0 C hr hlocks _ _ hs
  · exact hs.elim
/-- CountedObjectsModel.become(II)V: a step from head to head -/
def sp_M_become (post : GS → Prop) (V : Nat → GS → List Int32 → Prop) (h : Nat) (S : GS) (xs : List Int32) : Prop := match h, xs with
  | 0, [v1, v2] => wp_M_isObject  [v1] S (fun r2 S1 => ((r2 = 0 → (∀ S3 : GS, S3 = gx_set 100 0 1 S1 → ((¬ (S3 100 0) = 0 → post S3) ∧ ((S3 100 0) = 0 → (vp_in (v1 / 2) 41 ∧ ∀ y4 : Int32, y4 = S3 2 (v1 / 2).toNatClampNeg → (vp_in (v1 / 2) 41 ∧ ∀ y5 : Int32, y5 = S3 3 (v1 / 2).toNatClampNeg → (vp_in (v2 / 2) 41 ∧ (vp_in (v1 / 2) 41 ∧ ∀ S6 : GS, S6 = gx_set 2 (v1 / 2).toNatClampNeg (S3 2 (v2 / 2).toNatClampNeg) S3 → (vp_in (v2 / 2) 41 ∧ (vp_in (v1 / 2) 41 ∧ ∀ S7 : GS, S7 = gx_set 3 (v1 / 2).toNatClampNeg (S6 3 (v2 / 2).toNatClampNeg) S6 → (vp_in (v2 / 2) 41 ∧ ∀ S8 : GS, S8 = gx_set 2 (v2 / 2).toNatClampNeg y4 S7 → (vp_in (v2 / 2) 41 ∧ ∀ S9 : GS, S9 = gx_set 3 (v2 / 2).toNatClampNeg y5 S8 → post S9)))))))))))) ∧ (¬ r2 = 0 → wp_M_isObject  [v2] S1 (fun r11 S10 => ((r11 = 0 → (∀ S12 : GS, S12 = gx_set 100 0 1 S10 → ((¬ (S12 100 0) = 0 → post S12) ∧ ((S12 100 0) = 0 → (vp_in (v1 / 2) 41 ∧ ∀ y13 : Int32, y13 = S12 2 (v1 / 2).toNatClampNeg → (vp_in (v1 / 2) 41 ∧ ∀ y14 : Int32, y14 = S12 3 (v1 / 2).toNatClampNeg → (vp_in (v2 / 2) 41 ∧ (vp_in (v1 / 2) 41 ∧ ∀ S15 : GS, S15 = gx_set 2 (v1 / 2).toNatClampNeg (S12 2 (v2 / 2).toNatClampNeg) S12 → (vp_in (v2 / 2) 41 ∧ (vp_in (v1 / 2) 41 ∧ ∀ S16 : GS, S16 = gx_set 3 (v1 / 2).toNatClampNeg (S15 3 (v2 / 2).toNatClampNeg) S15 → (vp_in (v2 / 2) 41 ∧ ∀ S17 : GS, S17 = gx_set 2 (v2 / 2).toNatClampNeg y13 S16 → (vp_in (v2 / 2) 41 ∧ ∀ S18 : GS, S18 = gx_set 3 (v2 / 2).toNatClampNeg y14 S17 → post S18)))))))))))) ∧ (¬ r11 = 0 → (∀ S19 : GS, S19 = gx_set 100 0 0 S10 → ((¬ (S19 100 0) = 0 → post S19) ∧ ((S19 100 0) = 0 → (vp_in (v1 / 2) 41 ∧ ∀ y20 : Int32, y20 = S19 2 (v1 / 2).toNatClampNeg → (vp_in (v1 / 2) 41 ∧ ∀ y21 : Int32, y21 = S19 3 (v1 / 2).toNatClampNeg → (vp_in (v2 / 2) 41 ∧ (vp_in (v1 / 2) 41 ∧ ∀ S22 : GS, S22 = gx_set 2 (v1 / 2).toNatClampNeg (S19 2 (v2 / 2).toNatClampNeg) S19 → (vp_in (v2 / 2) 41 ∧ (vp_in (v1 / 2) 41 ∧ ∀ S23 : GS, S23 = gx_set 3 (v1 / 2).toNatClampNeg (S22 3 (v2 / 2).toNatClampNeg) S22 → (vp_in (v2 / 2) 41 ∧ ∀ S24 : GS, S24 = gx_set 2 (v2 / 2).toNatClampNeg y20 S23 → (vp_in (v2 / 2) 41 ∧ ∀ S25 : GS, S25 = gx_set 3 (v2 / 2).toNatClampNeg y21 S24 → post S25)))))))))))))))))
  | _, _ => False
def wp_M_become (xs : List Int32) (S : GS) (post : GS → Prop) : Prop := ∀ V : Nat → GS → List Int32 → Prop, (∀ h S xs, sp_M_become post V h S xs → V h S xs) → V 0 S xs
def vh_M_become (o : Nat → Nat) (G : GS → Nat → List (Nat × Value) → List Value → Prop) (h : Nat) (S : GS) (xs : List Int32) : Prop := match h, xs with
  | 0, [v1, v2] => G S 0 [(0, .ref (o 0)), (1, .int v1), (2, .int v2)] []
  | _, _ => True
set_option maxHeartbeats 4000000 in
set_option maxRecDepth 100000 in
theorem wk_M_become_0 {l : Launch} {dC : Nat → ClassId} {dI : Nat → Nat → Nat} {cI cZ : ClassId} {o : Nat → Nat}  {p : Program} {e : Env} {s : State} {m : MethodId} {args : Array Value} {below : List Frame} {meth : Method} {c : Code} {A : Nat → Prop} {post : GS → Prop} (C : GC p s m args c cM_become 5 RM wsA (dC, dI) gx_cl [(cI, .int), (cZ, .boolean)] A) (hr : meth.sig.returnType = none) (hlocks : meth.locks = false) (S : GS) (v1 : Int32) (v2 : Int32) (hs : sp_M_become post (vh_M_become o (GV p l e ({ frames := 2, cells := 0, slots := 0, locals := 41 }) s m args below meth c (MQ below (va_Qv post (GB (mw cI cZ o) (dC, dI) gx_cl [(cI, .int), (cZ, .boolean)] A) A) args s 0 0 A) 5 (dC, dI) gx_cl A (mw cI cZ o))) 0 S [v1, v2]) : GV p l e ({ frames := 2, cells := 0, slots := 0, locals := 41 }) s m args below meth c (MQ below (va_Qv post (GB (mw cI cZ o) (dC, dI) gx_cl [(cI, .int), (cZ, .boolean)] A) A) args s 0 0 A) 5 (dC, dI) gx_cl A (mw cI cZ o) S 0 [(0, .ref (o 0)), (1, .int v1), (2, .int v2)] [] := by
  refine gx_aload_n C dM_become_0 0 rfl rfl ?_
  refine gx_aload_n C dM_become_1 0 rfl rfl ?_
  refine gx_iload_n C dM_become_2 1 rfl rfl ?_
  refine gx_calli (As := [.int v1]) (rest := [.ref (o 0)]) C (mt_M_isObject l dC dI cI cZ o  _ _ _ hs) (gx_cwV C 1 ln_M_65 im_M_isObject se_M_isObject in_CountedObjectsModel cd_M_isObject rfl rfl (by decide +kernel) ⟨Nat.le_of_ble_eq_true rfl, Nat.le_of_ble_eq_true rfl⟩) mo_this rfl (Nat.le_of_ble_eq_true rfl) dM_become_3 (fun S1 => mw_ad _ S1) rfl (fun r2 S1 hs => ?_)
  obtain ⟨ht, hf⟩ := hs
  refine gx_if_eq C dM_become_6 21 rfl (fun hc => ?_) (fun hc => ?_)
  · have hs := ht hc
    refine gx_iconst (v := 1) C dM_become_21 (by decide) ?_
    refine gx_put C mo_this hi_M tyM tyM_ok nmM 0 (by decide) fl_M_58 rfl (by decide +kernel) (Nat.le_of_ble_eq_true rfl) (mp_thrown _ _) dM_become_22 (fun S3 eS3 => ?_)
    replace hs := hs S3 eS3
    refine gx_aload_n C dM_become_25 0 rfl rfl ?_
    refine gx_get C mo_this hi_M 0 (by decide) fl_M_58 rfl dM_become_26 ?_
    obtain ⟨ht, hf⟩ := hs
    refine gx_if_ne C dM_become_29 102 rfl (fun hc => ?_) (fun hc => ?_)
    · have hs := ht hc
      exact gx_vret C hr hlocks dM_become_102 hs
    · have hs := hf hc
      refine gx_aload_n C dM_become_32 0 rfl rfl ?_
      refine gx_get C mo_this hi_M 5 (by decide) fl_M_17 rfl dM_become_33 ?_
      refine gx_iload_n C dM_become_36 1 rfl rfl ?_
      refine gx_iconst (v := 2) C dM_become_37 (by decide) ?_
      refine gx_idiv C dM_become_38 (by decide) ?_
      obtain ⟨hin, hs⟩ := hs
      refine gx_iald C ma_addresses hin dM_become_39 ?_
      refine gx_top (fun y4 ey4 => ?_)
      replace hs := hs y4 ey4
      refine gx_istore_n (L' := [(3, .int y4), (0, .ref (o 0)), (1, .int v1), (2, .int v2)]) C dM_become_40 rfl (by decide) rfl ?_
      refine gx_aload_n C dM_become_41 1 rfl rfl ?_
      refine gx_get C mo_this hi_M 6 (by decide) fl_M_20 rfl dM_become_42 ?_
      refine gx_iload_n C dM_become_45 2 rfl rfl ?_
      refine gx_iconst (v := 2) C dM_become_46 (by decide) ?_
      refine gx_idiv C dM_become_47 (by decide) ?_
      obtain ⟨hin, hs⟩ := hs
      refine gx_iald C ma_sizes hin dM_become_48 ?_
      refine gx_top (fun y5 ey5 => ?_)
      replace hs := hs y5 ey5
      refine gx_istore (L' := [(4, .int y5), (3, .int y4), (0, .ref (o 0)), (1, .int v1), (2, .int v2)]) C dM_become_49 (by decide) rfl ?_
      refine gx_aload_n C dM_become_51 2 rfl rfl ?_
      refine gx_get C mo_this hi_M 5 (by decide) fl_M_17 rfl dM_become_52 ?_
      refine gx_iload_n C dM_become_55 3 rfl rfl ?_
      refine gx_iconst (v := 2) C dM_become_56 (by decide) ?_
      refine gx_idiv C dM_become_57 (by decide) ?_
      refine gx_aload_n C dM_become_58 2 rfl rfl ?_
      refine gx_get C mo_this hi_M 5 (by decide) fl_M_17 rfl dM_become_59 ?_
      refine gx_iload_n C dM_become_62 4 rfl rfl ?_
      refine gx_iconst (v := 2) C dM_become_63 (by decide) ?_
      refine gx_idiv C dM_become_64 (by decide) ?_
      obtain ⟨hin, hs⟩ := hs
      refine gx_iald C ma_addresses hin dM_become_65 ?_
      obtain ⟨hin, hs⟩ := hs
      refine gx_iast C ma_addresses hin dM_become_66 (fun S6 eS6 => ?_)
      replace hs := hs S6 eS6
      refine gx_aload_n C dM_become_67 2 rfl rfl ?_
      refine gx_get C mo_this hi_M 6 (by decide) fl_M_20 rfl dM_become_68 ?_
      refine gx_iload_n C dM_become_71 3 rfl rfl ?_
      refine gx_iconst (v := 2) C dM_become_72 (by decide) ?_
      refine gx_idiv C dM_become_73 (by decide) ?_
      refine gx_aload_n C dM_become_74 2 rfl rfl ?_
      refine gx_get C mo_this hi_M 6 (by decide) fl_M_20 rfl dM_become_75 ?_
      refine gx_iload_n C dM_become_78 4 rfl rfl ?_
      refine gx_iconst (v := 2) C dM_become_79 (by decide) ?_
      refine gx_idiv C dM_become_80 (by decide) ?_
      obtain ⟨hin, hs⟩ := hs
      refine gx_iald C ma_sizes hin dM_become_81 ?_
      obtain ⟨hin, hs⟩ := hs
      refine gx_iast C ma_sizes hin dM_become_82 (fun S7 eS7 => ?_)
      replace hs := hs S7 eS7
      refine gx_aload_n C dM_become_83 2 rfl rfl ?_
      refine gx_get C mo_this hi_M 5 (by decide) fl_M_17 rfl dM_become_84 ?_
      refine gx_iload_n C dM_become_87 4 rfl rfl ?_
      refine gx_iconst (v := 2) C dM_become_88 (by decide) ?_
      refine gx_idiv C dM_become_89 (by decide) ?_
      refine gx_iload_n C dM_become_90 1 rfl rfl ?_
      obtain ⟨hin, hs⟩ := hs
      refine gx_iast C ma_addresses hin dM_become_91 (fun S8 eS8 => ?_)
      replace hs := hs S8 eS8
      refine gx_aload_n C dM_become_92 2 rfl rfl ?_
      refine gx_get C mo_this hi_M 6 (by decide) fl_M_20 rfl dM_become_93 ?_
      refine gx_iload_n C dM_become_96 4 rfl rfl ?_
      refine gx_iconst (v := 2) C dM_become_97 (by decide) ?_
      refine gx_idiv C dM_become_98 (by decide) ?_
      refine gx_iload C dM_become_99 0 rfl ?_
      obtain ⟨hin, hs⟩ := hs
      refine gx_iast C ma_sizes hin dM_become_101 (fun S9 eS9 => ?_)
      replace hs := hs S9 eS9
      exact gx_vret C hr hlocks dM_become_102 hs
  · have hs := hf hc
    refine gx_aload_n C dM_become_9 0 rfl rfl ?_
    refine gx_iload_n C dM_become_10 2 rfl rfl ?_
    refine gx_calli (As := [.int v2]) (rest := [.ref (o 0)]) C (mt_M_isObject l dC dI cI cZ o  _ _ _ hs) (gx_cwV C 1 ln_M_65 im_M_isObject se_M_isObject in_CountedObjectsModel cd_M_isObject rfl rfl (by decide +kernel) ⟨Nat.le_of_ble_eq_true rfl, Nat.le_of_ble_eq_true rfl⟩) mo_this rfl (Nat.le_of_ble_eq_true rfl) dM_become_11 (fun S1 => mw_ad _ S1) rfl (fun r11 S10 hs => ?_)
    obtain ⟨ht, hf⟩ := hs
    refine gx_if_eq C dM_become_14 21 rfl (fun hc => ?_) (fun hc => ?_)
    · have hs := ht hc
      refine gx_iconst (v := 1) C dM_become_21 (by decide) ?_
      refine gx_put C mo_this hi_M tyM tyM_ok nmM 0 (by decide) fl_M_58 rfl (by decide +kernel) (Nat.le_of_ble_eq_true rfl) (mp_thrown _ _) dM_become_22 (fun S12 eS12 => ?_)
      replace hs := hs S12 eS12
      refine gx_aload_n C dM_become_25 0 rfl rfl ?_
      refine gx_get C mo_this hi_M 0 (by decide) fl_M_58 rfl dM_become_26 ?_
      obtain ⟨ht, hf⟩ := hs
      refine gx_if_ne C dM_become_29 102 rfl (fun hc => ?_) (fun hc => ?_)
      · have hs := ht hc
        exact gx_vret C hr hlocks dM_become_102 hs
      · have hs := hf hc
        refine gx_aload_n C dM_become_32 0 rfl rfl ?_
        refine gx_get C mo_this hi_M 5 (by decide) fl_M_17 rfl dM_become_33 ?_
        refine gx_iload_n C dM_become_36 1 rfl rfl ?_
        refine gx_iconst (v := 2) C dM_become_37 (by decide) ?_
        refine gx_idiv C dM_become_38 (by decide) ?_
        obtain ⟨hin, hs⟩ := hs
        refine gx_iald C ma_addresses hin dM_become_39 ?_
        refine gx_top (fun y13 ey13 => ?_)
        replace hs := hs y13 ey13
        refine gx_istore_n (L' := [(3, .int y13), (0, .ref (o 0)), (1, .int v1), (2, .int v2)]) C dM_become_40 rfl (by decide) rfl ?_
        refine gx_aload_n C dM_become_41 1 rfl rfl ?_
        refine gx_get C mo_this hi_M 6 (by decide) fl_M_20 rfl dM_become_42 ?_
        refine gx_iload_n C dM_become_45 2 rfl rfl ?_
        refine gx_iconst (v := 2) C dM_become_46 (by decide) ?_
        refine gx_idiv C dM_become_47 (by decide) ?_
        obtain ⟨hin, hs⟩ := hs
        refine gx_iald C ma_sizes hin dM_become_48 ?_
        refine gx_top (fun y14 ey14 => ?_)
        replace hs := hs y14 ey14
        refine gx_istore (L' := [(4, .int y14), (3, .int y13), (0, .ref (o 0)), (1, .int v1), (2, .int v2)]) C dM_become_49 (by decide) rfl ?_
        refine gx_aload_n C dM_become_51 2 rfl rfl ?_
        refine gx_get C mo_this hi_M 5 (by decide) fl_M_17 rfl dM_become_52 ?_
        refine gx_iload_n C dM_become_55 3 rfl rfl ?_
        refine gx_iconst (v := 2) C dM_become_56 (by decide) ?_
        refine gx_idiv C dM_become_57 (by decide) ?_
        refine gx_aload_n C dM_become_58 2 rfl rfl ?_
        refine gx_get C mo_this hi_M 5 (by decide) fl_M_17 rfl dM_become_59 ?_
        refine gx_iload_n C dM_become_62 4 rfl rfl ?_
        refine gx_iconst (v := 2) C dM_become_63 (by decide) ?_
        refine gx_idiv C dM_become_64 (by decide) ?_
        obtain ⟨hin, hs⟩ := hs
        refine gx_iald C ma_addresses hin dM_become_65 ?_
        obtain ⟨hin, hs⟩ := hs
        refine gx_iast C ma_addresses hin dM_become_66 (fun S15 eS15 => ?_)
        replace hs := hs S15 eS15
        refine gx_aload_n C dM_become_67 2 rfl rfl ?_
        refine gx_get C mo_this hi_M 6 (by decide) fl_M_20 rfl dM_become_68 ?_
        refine gx_iload_n C dM_become_71 3 rfl rfl ?_
        refine gx_iconst (v := 2) C dM_become_72 (by decide) ?_
        refine gx_idiv C dM_become_73 (by decide) ?_
        refine gx_aload_n C dM_become_74 2 rfl rfl ?_
        refine gx_get C mo_this hi_M 6 (by decide) fl_M_20 rfl dM_become_75 ?_
        refine gx_iload_n C dM_become_78 4 rfl rfl ?_
        refine gx_iconst (v := 2) C dM_become_79 (by decide) ?_
        refine gx_idiv C dM_become_80 (by decide) ?_
        obtain ⟨hin, hs⟩ := hs
        refine gx_iald C ma_sizes hin dM_become_81 ?_
        obtain ⟨hin, hs⟩ := hs
        refine gx_iast C ma_sizes hin dM_become_82 (fun S16 eS16 => ?_)
        replace hs := hs S16 eS16
        refine gx_aload_n C dM_become_83 2 rfl rfl ?_
        refine gx_get C mo_this hi_M 5 (by decide) fl_M_17 rfl dM_become_84 ?_
        refine gx_iload_n C dM_become_87 4 rfl rfl ?_
        refine gx_iconst (v := 2) C dM_become_88 (by decide) ?_
        refine gx_idiv C dM_become_89 (by decide) ?_
        refine gx_iload_n C dM_become_90 1 rfl rfl ?_
        obtain ⟨hin, hs⟩ := hs
        refine gx_iast C ma_addresses hin dM_become_91 (fun S17 eS17 => ?_)
        replace hs := hs S17 eS17
        refine gx_aload_n C dM_become_92 2 rfl rfl ?_
        refine gx_get C mo_this hi_M 6 (by decide) fl_M_20 rfl dM_become_93 ?_
        refine gx_iload_n C dM_become_96 4 rfl rfl ?_
        refine gx_iconst (v := 2) C dM_become_97 (by decide) ?_
        refine gx_idiv C dM_become_98 (by decide) ?_
        refine gx_iload C dM_become_99 0 rfl ?_
        obtain ⟨hin, hs⟩ := hs
        refine gx_iast C ma_sizes hin dM_become_101 (fun S18 eS18 => ?_)
        replace hs := hs S18 eS18
        exact gx_vret C hr hlocks dM_become_102 hs
    · have hs := hf hc
      refine gx_iconst (v := 0) C dM_become_17 (by decide) ?_
      refine gx_goto C dM_become_18 22 rfl ?_
      refine gx_put C mo_this hi_M tyM tyM_ok nmM 0 (by decide) fl_M_58 rfl (by decide +kernel) (Nat.le_of_ble_eq_true rfl) (mp_thrown _ _) dM_become_22 (fun S19 eS19 => ?_)
      replace hs := hs S19 eS19
      refine gx_aload_n C dM_become_25 0 rfl rfl ?_
      refine gx_get C mo_this hi_M 0 (by decide) fl_M_58 rfl dM_become_26 ?_
      obtain ⟨ht, hf⟩ := hs
      refine gx_if_ne C dM_become_29 102 rfl (fun hc => ?_) (fun hc => ?_)
      · have hs := ht hc
        exact gx_vret C hr hlocks dM_become_102 hs
      · have hs := hf hc
        refine gx_aload_n C dM_become_32 0 rfl rfl ?_
        refine gx_get C mo_this hi_M 5 (by decide) fl_M_17 rfl dM_become_33 ?_
        refine gx_iload_n C dM_become_36 1 rfl rfl ?_
        refine gx_iconst (v := 2) C dM_become_37 (by decide) ?_
        refine gx_idiv C dM_become_38 (by decide) ?_
        obtain ⟨hin, hs⟩ := hs
        refine gx_iald C ma_addresses hin dM_become_39 ?_
        refine gx_top (fun y20 ey20 => ?_)
        replace hs := hs y20 ey20
        refine gx_istore_n (L' := [(3, .int y20), (0, .ref (o 0)), (1, .int v1), (2, .int v2)]) C dM_become_40 rfl (by decide) rfl ?_
        refine gx_aload_n C dM_become_41 1 rfl rfl ?_
        refine gx_get C mo_this hi_M 6 (by decide) fl_M_20 rfl dM_become_42 ?_
        refine gx_iload_n C dM_become_45 2 rfl rfl ?_
        refine gx_iconst (v := 2) C dM_become_46 (by decide) ?_
        refine gx_idiv C dM_become_47 (by decide) ?_
        obtain ⟨hin, hs⟩ := hs
        refine gx_iald C ma_sizes hin dM_become_48 ?_
        refine gx_top (fun y21 ey21 => ?_)
        replace hs := hs y21 ey21
        refine gx_istore (L' := [(4, .int y21), (3, .int y20), (0, .ref (o 0)), (1, .int v1), (2, .int v2)]) C dM_become_49 (by decide) rfl ?_
        refine gx_aload_n C dM_become_51 2 rfl rfl ?_
        refine gx_get C mo_this hi_M 5 (by decide) fl_M_17 rfl dM_become_52 ?_
        refine gx_iload_n C dM_become_55 3 rfl rfl ?_
        refine gx_iconst (v := 2) C dM_become_56 (by decide) ?_
        refine gx_idiv C dM_become_57 (by decide) ?_
        refine gx_aload_n C dM_become_58 2 rfl rfl ?_
        refine gx_get C mo_this hi_M 5 (by decide) fl_M_17 rfl dM_become_59 ?_
        refine gx_iload_n C dM_become_62 4 rfl rfl ?_
        refine gx_iconst (v := 2) C dM_become_63 (by decide) ?_
        refine gx_idiv C dM_become_64 (by decide) ?_
        obtain ⟨hin, hs⟩ := hs
        refine gx_iald C ma_addresses hin dM_become_65 ?_
        obtain ⟨hin, hs⟩ := hs
        refine gx_iast C ma_addresses hin dM_become_66 (fun S22 eS22 => ?_)
        replace hs := hs S22 eS22
        refine gx_aload_n C dM_become_67 2 rfl rfl ?_
        refine gx_get C mo_this hi_M 6 (by decide) fl_M_20 rfl dM_become_68 ?_
        refine gx_iload_n C dM_become_71 3 rfl rfl ?_
        refine gx_iconst (v := 2) C dM_become_72 (by decide) ?_
        refine gx_idiv C dM_become_73 (by decide) ?_
        refine gx_aload_n C dM_become_74 2 rfl rfl ?_
        refine gx_get C mo_this hi_M 6 (by decide) fl_M_20 rfl dM_become_75 ?_
        refine gx_iload_n C dM_become_78 4 rfl rfl ?_
        refine gx_iconst (v := 2) C dM_become_79 (by decide) ?_
        refine gx_idiv C dM_become_80 (by decide) ?_
        obtain ⟨hin, hs⟩ := hs
        refine gx_iald C ma_sizes hin dM_become_81 ?_
        obtain ⟨hin, hs⟩ := hs
        refine gx_iast C ma_sizes hin dM_become_82 (fun S23 eS23 => ?_)
        replace hs := hs S23 eS23
        refine gx_aload_n C dM_become_83 2 rfl rfl ?_
        refine gx_get C mo_this hi_M 5 (by decide) fl_M_17 rfl dM_become_84 ?_
        refine gx_iload_n C dM_become_87 4 rfl rfl ?_
        refine gx_iconst (v := 2) C dM_become_88 (by decide) ?_
        refine gx_idiv C dM_become_89 (by decide) ?_
        refine gx_iload_n C dM_become_90 1 rfl rfl ?_
        obtain ⟨hin, hs⟩ := hs
        refine gx_iast C ma_addresses hin dM_become_91 (fun S24 eS24 => ?_)
        replace hs := hs S24 eS24
        refine gx_aload_n C dM_become_92 2 rfl rfl ?_
        refine gx_get C mo_this hi_M 6 (by decide) fl_M_20 rfl dM_become_93 ?_
        refine gx_iload_n C dM_become_96 4 rfl rfl ?_
        refine gx_iconst (v := 2) C dM_become_97 (by decide) ?_
        refine gx_idiv C dM_become_98 (by decide) ?_
        refine gx_iload C dM_become_99 0 rfl ?_
        obtain ⟨hin, hs⟩ := hs
        refine gx_iast C ma_sizes hin dM_become_101 (fun S25 eS25 => ?_)
        replace hs := hs S25 eS25
        exact gx_vret C hr hlocks dM_become_102 hs
set_option maxHeartbeats 4000000 in
set_option maxRecDepth 100000 in
theorem mt_M_become (l : Launch) (dC : Nat → ClassId) (dI : Nat → Nat → Nat) (cI cZ : ClassId) (o : Nat → Nat) (v1 : Int32) (v2 : Int32) (S : GS) (post : GS → Prop) (h : wp_M_become [v1, v2] S post) : MetV l yM_become (Cond.code yM_become cM_become 5 none :: wsA) ({ frames := 2, cells := 0, slots := 0, locals := 41 }) (dC, dI) gx_cl [(cI, .int), (cZ, .boolean)] (mw cI cZ o) [.ref (o 0), .int v1, .int v2] S post := by
  refine gx_metV (by decide) wsA_good (Nat.le_of_ble_eq_true rfl) ?_
  intro p e s m args below meth c A C hr hlocks
  refine h (vh_M_become o (GV p l e ({ frames := 2, cells := 0, slots := 0, locals := 41 }) s m args below meth c (MQ below (va_Qv post (GB (mw cI cZ o) (dC, dI) gx_cl [(cI, .int), (cZ, .boolean)] A) A) args s 0 0 A) 5 (dC, dI) gx_cl A (mw cI cZ o))) (fun h S xs hs => ?_)
  unfold sp_M_become at hs
  split at hs
  · exact wk_M_become_0 C hr hlocks _ _ _ hs
  · exact hs.elim
/-- CountedObjectsModel.collect()I: a step from head to head -/
def sp_M_collect (post : Int32 → GS → Prop) (V : Nat → GS → List Int32 → Prop) (h : Nat) (S : GS) (xs : List Int32) : Prop := match h, xs with
  | 0, [] => (∀ S1 : GS, S1 = gx_set 100 0 0 S → wp_M_gather  [0] S1 (fun r3 S2 => post r3 S2))
  | _, _ => False
def wp_M_collect (xs : List Int32) (S : GS) (post : Int32 → GS → Prop) : Prop := ∀ V : Nat → GS → List Int32 → Prop, (∀ h S xs, sp_M_collect post V h S xs → V h S xs) → V 0 S xs
def vh_M_collect (o : Nat → Nat) (G : GS → Nat → List (Nat × Value) → List Value → Prop) (h : Nat) (S : GS) (xs : List Int32) : Prop := match h, xs with
  | 0, [] => G S 0 [(0, .ref (o 0))] []
  | _, _ => True
set_option maxHeartbeats 4000000 in
set_option maxRecDepth 100000 in
theorem wk_M_collect_0 {l : Launch} {dC : Nat → ClassId} {dI : Nat → Nat → Nat} {cI cZ : ClassId} {o : Nat → Nat}  {p : Program} {e : Env} {s : State} {m : MethodId} {args : Array Value} {below : List Frame} {meth : Method} {c : Code} {A : Nat → Prop} {post : Int32 → GS → Prop} (C : GC p s m args c cM_collect 1 RM wsA (dC, dI) gx_cl [(cI, .int), (cZ, .boolean)] A) (hr : meth.sig.returnType = (some .int)) (hlocks : meth.locks = false) (S : GS) (hs : sp_M_collect post (vh_M_collect o (GV p l e ({ frames := 4, cells := 0, slots := 0, locals := 91 }) s m args below meth c (MQ below (va_Qi post (GB (mw cI cZ o) (dC, dI) gx_cl [(cI, .int), (cZ, .boolean)] A) A) args s 0 0 A) 1 (dC, dI) gx_cl A (mw cI cZ o))) 0 S []) : GV p l e ({ frames := 4, cells := 0, slots := 0, locals := 91 }) s m args below meth c (MQ below (va_Qi post (GB (mw cI cZ o) (dC, dI) gx_cl [(cI, .int), (cZ, .boolean)] A) A) args s 0 0 A) 1 (dC, dI) gx_cl A (mw cI cZ o) S 0 [(0, .ref (o 0))] [] := by
  refine gx_aload_n C dM_collect_0 0 rfl rfl ?_
  refine gx_iconst (v := 0) C dM_collect_1 (by decide) ?_
  refine gx_put C mo_this hi_M tyM tyM_ok nmM 0 (by decide) fl_M_58 rfl (by decide +kernel) (Nat.le_of_ble_eq_true rfl) (mp_thrown _ _) dM_collect_2 (fun S1 eS1 => ?_)
  replace hs := hs S1 eS1
  refine gx_aload_n C dM_collect_5 0 rfl rfl ?_
  refine gx_iconst (v := 0) C dM_collect_6 (by decide) ?_
  refine gx_calli (As := [.int 0]) (rest := []) C (mt_M_gather l dC dI cI cZ o  _ _ _ hs) (gx_cwV C 1 ln_M_116 im_M_gather se_M_gather in_CountedObjectsModel cd_M_gather rfl rfl (by decide +kernel) ⟨Nat.le_of_ble_eq_true rfl, Nat.le_of_ble_eq_true rfl⟩) mo_this rfl (Nat.le_of_ble_eq_true rfl) dM_collect_7 (fun S1 => mw_ad _ S1) rfl (fun r3 S2 hs => ?_)
  exact gx_iret C hr hlocks dM_collect_10 hs
set_option maxHeartbeats 4000000 in
set_option maxRecDepth 100000 in
theorem mt_M_collect (l : Launch) (dC : Nat → ClassId) (dI : Nat → Nat → Nat) (cI cZ : ClassId) (o : Nat → Nat) (S : GS) (post : Int32 → GS → Prop) (h : wp_M_collect [] S post) : MetI l yM_collect (Cond.code yM_collect cM_collect 1 (some .int) :: wsA) ({ frames := 4, cells := 0, slots := 0, locals := 91 }) (dC, dI) gx_cl [(cI, .int), (cZ, .boolean)] (mw cI cZ o) [.ref (o 0)] S post := by
  refine gx_metI (by decide) wsA_good (Nat.le_of_ble_eq_true rfl) ?_
  intro p e s m args below meth c A C hr hlocks
  refine h (vh_M_collect o (GV p l e ({ frames := 4, cells := 0, slots := 0, locals := 91 }) s m args below meth c (MQ below (va_Qi post (GB (mw cI cZ o) (dC, dI) gx_cl [(cI, .int), (cZ, .boolean)] A) A) args s 0 0 A) 1 (dC, dI) gx_cl A (mw cI cZ o))) (fun h S xs hs => ?_)
  unfold sp_M_collect at hs
  split at hs
  · exact wk_M_collect_0 C hr hlocks _ hs
  · exact hs.elim
/-- CountedObjectsModel.compact()I: a step from head to head -/
def sp_M_compact (post : Int32 → GS → Prop) (V : Nat → GS → List Int32 → Prop) (h : Nat) (S : GS) (xs : List Int32) : Prop := match h, xs with
  | 0, [] => (∀ S1 : GS, S1 = gx_set 100 0 0 S → wp_M_pack  [] S1 (fun r3 S2 => post r3 S2))
  | _, _ => False
def wp_M_compact (xs : List Int32) (S : GS) (post : Int32 → GS → Prop) : Prop := ∀ V : Nat → GS → List Int32 → Prop, (∀ h S xs, sp_M_compact post V h S xs → V h S xs) → V 0 S xs
def vh_M_compact (o : Nat → Nat) (G : GS → Nat → List (Nat × Value) → List Value → Prop) (h : Nat) (S : GS) (xs : List Int32) : Prop := match h, xs with
  | 0, [] => G S 0 [(0, .ref (o 0))] []
  | _, _ => True
set_option maxHeartbeats 4000000 in
set_option maxRecDepth 100000 in
theorem wk_M_compact_0 {l : Launch} {dC : Nat → ClassId} {dI : Nat → Nat → Nat} {cI cZ : ClassId} {o : Nat → Nat}  {p : Program} {e : Env} {s : State} {m : MethodId} {args : Array Value} {below : List Frame} {meth : Method} {c : Code} {A : Nat → Prop} {post : Int32 → GS → Prop} (C : GC p s m args c cM_compact 1 RM wsA (dC, dI) gx_cl [(cI, .int), (cZ, .boolean)] A) (hr : meth.sig.returnType = (some .int)) (hlocks : meth.locks = false) (S : GS) (hs : sp_M_compact post (vh_M_compact o (GV p l e ({ frames := 2, cells := 0, slots := 0, locals := 49 }) s m args below meth c (MQ below (va_Qi post (GB (mw cI cZ o) (dC, dI) gx_cl [(cI, .int), (cZ, .boolean)] A) A) args s 0 0 A) 1 (dC, dI) gx_cl A (mw cI cZ o))) 0 S []) : GV p l e ({ frames := 2, cells := 0, slots := 0, locals := 49 }) s m args below meth c (MQ below (va_Qi post (GB (mw cI cZ o) (dC, dI) gx_cl [(cI, .int), (cZ, .boolean)] A) A) args s 0 0 A) 1 (dC, dI) gx_cl A (mw cI cZ o) S 0 [(0, .ref (o 0))] [] := by
  refine gx_aload_n C dM_compact_0 0 rfl rfl ?_
  refine gx_iconst (v := 0) C dM_compact_1 (by decide) ?_
  refine gx_put C mo_this hi_M tyM tyM_ok nmM 0 (by decide) fl_M_58 rfl (by decide +kernel) (Nat.le_of_ble_eq_true rfl) (mp_thrown _ _) dM_compact_2 (fun S1 eS1 => ?_)
  replace hs := hs S1 eS1
  refine gx_aload_n C dM_compact_5 0 rfl rfl ?_
  refine gx_calli (As := []) (rest := []) C (mt_M_pack l dC dI cI cZ o  _ _ hs) (gx_cwV C 0 ln_M_82 im_M_pack se_M_pack in_CountedObjectsModel cd_M_pack rfl rfl (by decide +kernel) ⟨Nat.le_of_ble_eq_true rfl, Nat.le_of_ble_eq_true rfl⟩) mo_this rfl (Nat.le_of_ble_eq_true rfl) dM_compact_6 (fun S1 => mw_ad _ S1) rfl (fun r3 S2 hs => ?_)
  exact gx_iret C hr hlocks dM_compact_9 hs
set_option maxHeartbeats 4000000 in
set_option maxRecDepth 100000 in
theorem mt_M_compact (l : Launch) (dC : Nat → ClassId) (dI : Nat → Nat → Nat) (cI cZ : ClassId) (o : Nat → Nat) (S : GS) (post : Int32 → GS → Prop) (h : wp_M_compact [] S post) : MetI l yM_compact (Cond.code yM_compact cM_compact 1 (some .int) :: wsA) ({ frames := 2, cells := 0, slots := 0, locals := 49 }) (dC, dI) gx_cl [(cI, .int), (cZ, .boolean)] (mw cI cZ o) [.ref (o 0)] S post := by
  refine gx_metI (by decide) wsA_good (Nat.le_of_ble_eq_true rfl) ?_
  intro p e s m args below meth c A C hr hlocks
  refine h (vh_M_compact o (GV p l e ({ frames := 2, cells := 0, slots := 0, locals := 49 }) s m args below meth c (MQ below (va_Qi post (GB (mw cI cZ o) (dC, dI) gx_cl [(cI, .int), (cZ, .boolean)] A) A) args s 0 0 A) 1 (dC, dI) gx_cl A (mw cI cZ o))) (fun h S xs hs => ?_)
  unfold sp_M_compact at hs
  split at hs
  · exact wk_M_compact_0 C hr hlocks _ hs
  · exact hs.elim
/-- CountedObjectsModel.exists(I)Z: a step from head to head -/
def sp_M_exists (post : Int32 → GS → Prop) (V : Nat → GS → List Int32 → Prop) (h : Nat) (S : GS) (xs : List Int32) : Prop := match h, xs with
  | 0, [v1] => (∀ S1 : GS, S1 = gx_set 100 0 0 S → wp_M_isObject  [v1] S1 (fun r3 S2 => (narrow .boolean (.int r3) = .int r3 ∧ post r3 S2)))
  | _, _ => False
def wp_M_exists (xs : List Int32) (S : GS) (post : Int32 → GS → Prop) : Prop := ∀ V : Nat → GS → List Int32 → Prop, (∀ h S xs, sp_M_exists post V h S xs → V h S xs) → V 0 S xs
def vh_M_exists (o : Nat → Nat) (G : GS → Nat → List (Nat × Value) → List Value → Prop) (h : Nat) (S : GS) (xs : List Int32) : Prop := match h, xs with
  | 0, [v1] => G S 0 [(0, .ref (o 0)), (1, .int v1)] []
  | _, _ => True
set_option maxHeartbeats 4000000 in
set_option maxRecDepth 100000 in
theorem wk_M_exists_0 {l : Launch} {dC : Nat → ClassId} {dI : Nat → Nat → Nat} {cI cZ : ClassId} {o : Nat → Nat}  {p : Program} {e : Env} {s : State} {m : MethodId} {args : Array Value} {below : List Frame} {meth : Method} {c : Code} {A : Nat → Prop} {post : Int32 → GS → Prop} (C : GC p s m args c cM_exists 2 RM wsA (dC, dI) gx_cl [(cI, .int), (cZ, .boolean)] A) (hr : meth.sig.returnType = (some .boolean)) (hlocks : meth.locks = false) (S : GS) (v1 : Int32) (hs : sp_M_exists post (vh_M_exists o (GV p l e ({ frames := 2, cells := 0, slots := 0, locals := 41 }) s m args below meth c (MQ below (va_Qi post (GB (mw cI cZ o) (dC, dI) gx_cl [(cI, .int), (cZ, .boolean)] A) A) args s 0 0 A) 2 (dC, dI) gx_cl A (mw cI cZ o))) 0 S [v1]) : GV p l e ({ frames := 2, cells := 0, slots := 0, locals := 41 }) s m args below meth c (MQ below (va_Qi post (GB (mw cI cZ o) (dC, dI) gx_cl [(cI, .int), (cZ, .boolean)] A) A) args s 0 0 A) 2 (dC, dI) gx_cl A (mw cI cZ o) S 0 [(0, .ref (o 0)), (1, .int v1)] [] := by
  refine gx_aload_n C dM_exists_0 0 rfl rfl ?_
  refine gx_iconst (v := 0) C dM_exists_1 (by decide) ?_
  refine gx_put C mo_this hi_M tyM tyM_ok nmM 0 (by decide) fl_M_58 rfl (by decide +kernel) (Nat.le_of_ble_eq_true rfl) (mp_thrown _ _) dM_exists_2 (fun S1 eS1 => ?_)
  replace hs := hs S1 eS1
  refine gx_aload_n C dM_exists_5 0 rfl rfl ?_
  refine gx_iload_n C dM_exists_6 1 rfl rfl ?_
  refine gx_calli (As := [.int v1]) (rest := []) C (mt_M_isObject l dC dI cI cZ o  _ _ _ hs) (gx_cwV C 1 ln_M_65 im_M_isObject se_M_isObject in_CountedObjectsModel cd_M_isObject rfl rfl (by decide +kernel) ⟨Nat.le_of_ble_eq_true rfl, Nat.le_of_ble_eq_true rfl⟩) mo_this rfl (Nat.le_of_ble_eq_true rfl) dM_exists_7 (fun S1 => mw_ad _ S1) rfl (fun r3 S2 hs => ?_)
  exact gx_zret C hr hlocks dM_exists_10 hs.2 hs.1
set_option maxHeartbeats 4000000 in
set_option maxRecDepth 100000 in
theorem mt_M_exists (l : Launch) (dC : Nat → ClassId) (dI : Nat → Nat → Nat) (cI cZ : ClassId) (o : Nat → Nat) (v1 : Int32) (S : GS) (post : Int32 → GS → Prop) (h : wp_M_exists [v1] S post) : MetI l yM_exists (Cond.code yM_exists cM_exists 2 (some .boolean) :: wsA) ({ frames := 2, cells := 0, slots := 0, locals := 41 }) (dC, dI) gx_cl [(cI, .int), (cZ, .boolean)] (mw cI cZ o) [.ref (o 0), .int v1] S post := by
  refine gx_metI (by decide) wsA_good (Nat.le_of_ble_eq_true rfl) ?_
  intro p e s m args below meth c A C hr hlocks
  refine h (vh_M_exists o (GV p l e ({ frames := 2, cells := 0, slots := 0, locals := 41 }) s m args below meth c (MQ below (va_Qi post (GB (mw cI cZ o) (dC, dI) gx_cl [(cI, .int), (cZ, .boolean)] A) A) args s 0 0 A) 2 (dC, dI) gx_cl A (mw cI cZ o))) (fun h S xs hs => ?_)
  unfold sp_M_exists at hs
  split at hs
  · exact wk_M_exists_0 C hr hlocks _ _ hs
  · exact hs.elim
/-- CountedObjectsModel.count(I)I: a step from head to head -/
def sp_M_count (post : Int32 → GS → Prop) (V : Nat → GS → List Int32 → Prop) (h : Nat) (S : GS) (xs : List Int32) : Prop := match h, xs with
  | 0, [v1] => (∀ S1 : GS, S1 = gx_set 100 0 0 S → wp_M_isObject  [v1] S1 (fun r3 S2 => ((r3 = 0 → post 0 S2) ∧ (¬ r3 = 0 → (vp_in (v1 / 2) 41 ∧ post (S2 4 (v1 / 2).toNatClampNeg) S2)))))
  | _, _ => False
def wp_M_count (xs : List Int32) (S : GS) (post : Int32 → GS → Prop) : Prop := ∀ V : Nat → GS → List Int32 → Prop, (∀ h S xs, sp_M_count post V h S xs → V h S xs) → V 0 S xs
def vh_M_count (o : Nat → Nat) (G : GS → Nat → List (Nat × Value) → List Value → Prop) (h : Nat) (S : GS) (xs : List Int32) : Prop := match h, xs with
  | 0, [v1] => G S 0 [(0, .ref (o 0)), (1, .int v1)] []
  | _, _ => True
set_option maxHeartbeats 4000000 in
set_option maxRecDepth 100000 in
theorem wk_M_count_0 {l : Launch} {dC : Nat → ClassId} {dI : Nat → Nat → Nat} {cI cZ : ClassId} {o : Nat → Nat}  {p : Program} {e : Env} {s : State} {m : MethodId} {args : Array Value} {below : List Frame} {meth : Method} {c : Code} {A : Nat → Prop} {post : Int32 → GS → Prop} (C : GC p s m args c cM_count 2 RM wsA (dC, dI) gx_cl [(cI, .int), (cZ, .boolean)] A) (hr : meth.sig.returnType = (some .int)) (hlocks : meth.locks = false) (S : GS) (v1 : Int32) (hs : sp_M_count post (vh_M_count o (GV p l e ({ frames := 2, cells := 0, slots := 0, locals := 41 }) s m args below meth c (MQ below (va_Qi post (GB (mw cI cZ o) (dC, dI) gx_cl [(cI, .int), (cZ, .boolean)] A) A) args s 0 0 A) 2 (dC, dI) gx_cl A (mw cI cZ o))) 0 S [v1]) : GV p l e ({ frames := 2, cells := 0, slots := 0, locals := 41 }) s m args below meth c (MQ below (va_Qi post (GB (mw cI cZ o) (dC, dI) gx_cl [(cI, .int), (cZ, .boolean)] A) A) args s 0 0 A) 2 (dC, dI) gx_cl A (mw cI cZ o) S 0 [(0, .ref (o 0)), (1, .int v1)] [] := by
  refine gx_aload_n C dM_count_0 0 rfl rfl ?_
  refine gx_iconst (v := 0) C dM_count_1 (by decide) ?_
  refine gx_put C mo_this hi_M tyM tyM_ok nmM 0 (by decide) fl_M_58 rfl (by decide +kernel) (Nat.le_of_ble_eq_true rfl) (mp_thrown _ _) dM_count_2 (fun S1 eS1 => ?_)
  replace hs := hs S1 eS1
  refine gx_aload_n C dM_count_5 0 rfl rfl ?_
  refine gx_iload_n C dM_count_6 1 rfl rfl ?_
  refine gx_calli (As := [.int v1]) (rest := []) C (mt_M_isObject l dC dI cI cZ o  _ _ _ hs) (gx_cwV C 1 ln_M_65 im_M_isObject se_M_isObject in_CountedObjectsModel cd_M_isObject rfl rfl (by decide +kernel) ⟨Nat.le_of_ble_eq_true rfl, Nat.le_of_ble_eq_true rfl⟩) mo_this rfl (Nat.le_of_ble_eq_true rfl) dM_count_7 (fun S1 => mw_ad _ S1) rfl (fun r3 S2 hs => ?_)
  obtain ⟨ht, hf⟩ := hs
  refine gx_if_eq C dM_count_10 24 rfl (fun hc => ?_) (fun hc => ?_)
  · have hs := ht hc
    refine gx_iconst (v := 0) C dM_count_24 (by decide) ?_
    exact gx_iret C hr hlocks dM_count_25 hs
  · have hs := hf hc
    refine gx_aload_n C dM_count_13 0 rfl rfl ?_
    refine gx_get C mo_this hi_M 7 (by decide) fl_M_23 rfl dM_count_14 ?_
    refine gx_iload_n C dM_count_17 1 rfl rfl ?_
    refine gx_iconst (v := 2) C dM_count_18 (by decide) ?_
    refine gx_idiv C dM_count_19 (by decide) ?_
    obtain ⟨hin, hs⟩ := hs
    refine gx_iald C ma_counts hin dM_count_20 ?_
    refine gx_goto C dM_count_21 25 rfl ?_
    exact gx_iret C hr hlocks dM_count_25 hs
set_option maxHeartbeats 4000000 in
set_option maxRecDepth 100000 in
theorem mt_M_count (l : Launch) (dC : Nat → ClassId) (dI : Nat → Nat → Nat) (cI cZ : ClassId) (o : Nat → Nat) (v1 : Int32) (S : GS) (post : Int32 → GS → Prop) (h : wp_M_count [v1] S post) : MetI l yM_count (Cond.code yM_count cM_count 2 (some .int) :: wsA) ({ frames := 2, cells := 0, slots := 0, locals := 41 }) (dC, dI) gx_cl [(cI, .int), (cZ, .boolean)] (mw cI cZ o) [.ref (o 0), .int v1] S post := by
  refine gx_metI (by decide) wsA_good (Nat.le_of_ble_eq_true rfl) ?_
  intro p e s m args below meth c A C hr hlocks
  refine h (vh_M_count o (GV p l e ({ frames := 2, cells := 0, slots := 0, locals := 41 }) s m args below meth c (MQ below (va_Qi post (GB (mw cI cZ o) (dC, dI) gx_cl [(cI, .int), (cZ, .boolean)] A) A) args s 0 0 A) 2 (dC, dI) gx_cl A (mw cI cZ o))) (fun h S xs hs => ?_)
  unfold sp_M_count at hs
  split at hs
  · exact wk_M_count_0 C hr hlocks _ _ hs
  · exact hs.elim
/-- CountedObjectsModel.address(I)I: a step from head to head -/
def sp_M_address (post : Int32 → GS → Prop) (V : Nat → GS → List Int32 → Prop) (h : Nat) (S : GS) (xs : List Int32) : Prop := match h, xs with
  | 0, [v1] => (∀ S1 : GS, S1 = gx_set 100 0 0 S → wp_M_isObject  [v1] S1 (fun r3 S2 => ((r3 = 0 → post (-1) S2) ∧ (¬ r3 = 0 → (vp_in (v1 / 2) 41 ∧ post (S2 2 (v1 / 2).toNatClampNeg) S2)))))
  | _, _ => False
def wp_M_address (xs : List Int32) (S : GS) (post : Int32 → GS → Prop) : Prop := ∀ V : Nat → GS → List Int32 → Prop, (∀ h S xs, sp_M_address post V h S xs → V h S xs) → V 0 S xs
def vh_M_address (o : Nat → Nat) (G : GS → Nat → List (Nat × Value) → List Value → Prop) (h : Nat) (S : GS) (xs : List Int32) : Prop := match h, xs with
  | 0, [v1] => G S 0 [(0, .ref (o 0)), (1, .int v1)] []
  | _, _ => True
set_option maxHeartbeats 4000000 in
set_option maxRecDepth 100000 in
theorem wk_M_address_0 {l : Launch} {dC : Nat → ClassId} {dI : Nat → Nat → Nat} {cI cZ : ClassId} {o : Nat → Nat}  {p : Program} {e : Env} {s : State} {m : MethodId} {args : Array Value} {below : List Frame} {meth : Method} {c : Code} {A : Nat → Prop} {post : Int32 → GS → Prop} (C : GC p s m args c cM_address 2 RM wsA (dC, dI) gx_cl [(cI, .int), (cZ, .boolean)] A) (hr : meth.sig.returnType = (some .int)) (hlocks : meth.locks = false) (S : GS) (v1 : Int32) (hs : sp_M_address post (vh_M_address o (GV p l e ({ frames := 2, cells := 0, slots := 0, locals := 41 }) s m args below meth c (MQ below (va_Qi post (GB (mw cI cZ o) (dC, dI) gx_cl [(cI, .int), (cZ, .boolean)] A) A) args s 0 0 A) 2 (dC, dI) gx_cl A (mw cI cZ o))) 0 S [v1]) : GV p l e ({ frames := 2, cells := 0, slots := 0, locals := 41 }) s m args below meth c (MQ below (va_Qi post (GB (mw cI cZ o) (dC, dI) gx_cl [(cI, .int), (cZ, .boolean)] A) A) args s 0 0 A) 2 (dC, dI) gx_cl A (mw cI cZ o) S 0 [(0, .ref (o 0)), (1, .int v1)] [] := by
  refine gx_aload_n C dM_address_0 0 rfl rfl ?_
  refine gx_iconst (v := 0) C dM_address_1 (by decide) ?_
  refine gx_put C mo_this hi_M tyM tyM_ok nmM 0 (by decide) fl_M_58 rfl (by decide +kernel) (Nat.le_of_ble_eq_true rfl) (mp_thrown _ _) dM_address_2 (fun S1 eS1 => ?_)
  replace hs := hs S1 eS1
  refine gx_aload_n C dM_address_5 0 rfl rfl ?_
  refine gx_iload_n C dM_address_6 1 rfl rfl ?_
  refine gx_calli (As := [.int v1]) (rest := []) C (mt_M_isObject l dC dI cI cZ o  _ _ _ hs) (gx_cwV C 1 ln_M_65 im_M_isObject se_M_isObject in_CountedObjectsModel cd_M_isObject rfl rfl (by decide +kernel) ⟨Nat.le_of_ble_eq_true rfl, Nat.le_of_ble_eq_true rfl⟩) mo_this rfl (Nat.le_of_ble_eq_true rfl) dM_address_7 (fun S1 => mw_ad _ S1) rfl (fun r3 S2 hs => ?_)
  obtain ⟨ht, hf⟩ := hs
  refine gx_if_eq C dM_address_10 24 rfl (fun hc => ?_) (fun hc => ?_)
  · have hs := ht hc
    refine gx_iconst (v := (-1)) C dM_address_24 (by decide) ?_
    exact gx_iret C hr hlocks dM_address_25 hs
  · have hs := hf hc
    refine gx_aload_n C dM_address_13 0 rfl rfl ?_
    refine gx_get C mo_this hi_M 5 (by decide) fl_M_17 rfl dM_address_14 ?_
    refine gx_iload_n C dM_address_17 1 rfl rfl ?_
    refine gx_iconst (v := 2) C dM_address_18 (by decide) ?_
    refine gx_idiv C dM_address_19 (by decide) ?_
    obtain ⟨hin, hs⟩ := hs
    refine gx_iald C ma_addresses hin dM_address_20 ?_
    refine gx_goto C dM_address_21 25 rfl ?_
    exact gx_iret C hr hlocks dM_address_25 hs
set_option maxHeartbeats 4000000 in
set_option maxRecDepth 100000 in
theorem mt_M_address (l : Launch) (dC : Nat → ClassId) (dI : Nat → Nat → Nat) (cI cZ : ClassId) (o : Nat → Nat) (v1 : Int32) (S : GS) (post : Int32 → GS → Prop) (h : wp_M_address [v1] S post) : MetI l yM_address (Cond.code yM_address cM_address 2 (some .int) :: wsA) ({ frames := 2, cells := 0, slots := 0, locals := 41 }) (dC, dI) gx_cl [(cI, .int), (cZ, .boolean)] (mw cI cZ o) [.ref (o 0), .int v1] S post := by
  refine gx_metI (by decide) wsA_good (Nat.le_of_ble_eq_true rfl) ?_
  intro p e s m args below meth c A C hr hlocks
  refine h (vh_M_address o (GV p l e ({ frames := 2, cells := 0, slots := 0, locals := 41 }) s m args below meth c (MQ below (va_Qi post (GB (mw cI cZ o) (dC, dI) gx_cl [(cI, .int), (cZ, .boolean)] A) A) args s 0 0 A) 2 (dC, dI) gx_cl A (mw cI cZ o))) (fun h S xs hs => ?_)
  unfold sp_M_address at hs
  split at hs
  · exact wk_M_address_0 C hr hlocks _ _ hs
  · exact hs.elim
/-- CountedObjectsModel.chunks(I)I: a step from head to head -/
def sp_M_chunks (post : Int32 → GS → Prop) (V : Nat → GS → List Int32 → Prop) (h : Nat) (S : GS) (xs : List Int32) : Prop := match h, xs with
  | 0, [v1] => (∀ S1 : GS, S1 = gx_set 100 0 0 S → ∀ y2 : Int32, y2 = 0 → ∀ y3 : Int32, y3 = 0 → V 9 S1 [v1, y2, y3])
  | 9, [v1, v2, v3] => (((S 100 3) ≤ v3 → post v2 S) ∧ (¬ (S 100 3) ≤ v3 → ((v1 = 0 → ∀ y1 : Int32, y1 = v2 + 1 → (∀ y2 : Int32, y2 = v3 + 1 → V 9 S [v1, y1, y2])) ∧ (¬ v1 = 0 → (vp_in v3 400 ∧ ((¬ (S 7 (v3).toNatClampNeg) = v1 → (∀ y3 : Int32, y3 = v3 + 1 → V 9 S [v1, v2, y3])) ∧ ((S 7 (v3).toNatClampNeg) = v1 → ∀ y4 : Int32, y4 = v2 + 1 → (∀ y5 : Int32, y5 = v3 + 1 → V 9 S [v1, y4, y5]))))))))
  | _, _ => False
def wp_M_chunks (xs : List Int32) (S : GS) (post : Int32 → GS → Prop) : Prop := ∀ V : Nat → GS → List Int32 → Prop, (∀ h S xs, sp_M_chunks post V h S xs → V h S xs) → V 0 S xs
def vh_M_chunks (o : Nat → Nat) (G : GS → Nat → List (Nat × Value) → List Value → Prop) (h : Nat) (S : GS) (xs : List Int32) : Prop := match h, xs with
  | 0, [v1] => G S 0 [(0, .ref (o 0)), (1, .int v1)] []
  | 9, [v1, v2, v3] => G S 9 [(0, .ref (o 0)), (1, .int v1), (2, .int v2), (3, .int v3)] []
  | _, _ => True
set_option maxHeartbeats 4000000 in
set_option maxRecDepth 100000 in
theorem wk_M_chunks_0 {l : Launch} {dC : Nat → ClassId} {dI : Nat → Nat → Nat} {cI cZ : ClassId} {o : Nat → Nat}  {p : Program} {e : Env} {s : State} {m : MethodId} {args : Array Value} {below : List Frame} {meth : Method} {c : Code} {A : Nat → Prop} {post : Int32 → GS → Prop} (C : GC p s m args c cM_chunks 4 RM wsA (dC, dI) gx_cl [(cI, .int), (cZ, .boolean)] A) (hr : meth.sig.returnType = (some .int)) (hlocks : meth.locks = false) (S : GS) (v1 : Int32) (hs : sp_M_chunks post (vh_M_chunks o (GV p l e ({ frames := 0, cells := 0, slots := 0, locals := 0 }) s m args below meth c (MQ below (va_Qi post (GB (mw cI cZ o) (dC, dI) gx_cl [(cI, .int), (cZ, .boolean)] A) A) args s 0 0 A) 4 (dC, dI) gx_cl A (mw cI cZ o))) 0 S [v1]) : GV p l e ({ frames := 0, cells := 0, slots := 0, locals := 0 }) s m args below meth c (MQ below (va_Qi post (GB (mw cI cZ o) (dC, dI) gx_cl [(cI, .int), (cZ, .boolean)] A) A) args s 0 0 A) 4 (dC, dI) gx_cl A (mw cI cZ o) S 0 [(0, .ref (o 0)), (1, .int v1)] [] := by
  refine gx_aload_n C dM_chunks_0 0 rfl rfl ?_
  refine gx_iconst (v := 0) C dM_chunks_1 (by decide) ?_
  refine gx_put C mo_this hi_M tyM tyM_ok nmM 0 (by decide) fl_M_58 rfl (by decide +kernel) (Nat.le_of_ble_eq_true rfl) (mp_thrown _ _) dM_chunks_2 (fun S1 eS1 => ?_)
  replace hs := hs S1 eS1
  refine gx_iconst (v := 0) C dM_chunks_5 (by decide) ?_
  refine gx_top (fun y2 ey2 => ?_)
  replace hs := hs y2 ey2
  refine gx_istore_n (L' := [(2, .int y2), (0, .ref (o 0)), (1, .int v1)]) C dM_chunks_6 rfl (by decide) rfl ?_
  refine gx_iconst (v := 0) C dM_chunks_7 (by decide) ?_
  refine gx_top (fun y3 ey3 => ?_)
  replace hs := hs y3 ey3
  refine gx_istore_n (L' := [(3, .int y3), (2, .int y2), (0, .ref (o 0)), (1, .int v1)]) C dM_chunks_8 rfl (by decide) rfl ?_
  exact gx_sub [2, 3, 1, 0] rfl hs
set_option maxHeartbeats 4000000 in
set_option maxRecDepth 100000 in
theorem wk_M_chunks_9 {l : Launch} {dC : Nat → ClassId} {dI : Nat → Nat → Nat} {cI cZ : ClassId} {o : Nat → Nat}  {p : Program} {e : Env} {s : State} {m : MethodId} {args : Array Value} {below : List Frame} {meth : Method} {c : Code} {A : Nat → Prop} {post : Int32 → GS → Prop} (C : GC p s m args c cM_chunks 4 RM wsA (dC, dI) gx_cl [(cI, .int), (cZ, .boolean)] A) (hr : meth.sig.returnType = (some .int)) (hlocks : meth.locks = false) (S : GS) (v1 : Int32) (v2 : Int32) (v3 : Int32) (hs : sp_M_chunks post (vh_M_chunks o (GV p l e ({ frames := 0, cells := 0, slots := 0, locals := 0 }) s m args below meth c (MQ below (va_Qi post (GB (mw cI cZ o) (dC, dI) gx_cl [(cI, .int), (cZ, .boolean)] A) A) args s 0 0 A) 4 (dC, dI) gx_cl A (mw cI cZ o))) 9 S [v1, v2, v3]) : GV p l e ({ frames := 0, cells := 0, slots := 0, locals := 0 }) s m args below meth c (MQ below (va_Qi post (GB (mw cI cZ o) (dC, dI) gx_cl [(cI, .int), (cZ, .boolean)] A) A) args s 0 0 A) 4 (dC, dI) gx_cl A (mw cI cZ o) S 9 [(0, .ref (o 0)), (1, .int v1), (2, .int v2), (3, .int v3)] [] := by
  refine gx_iload_n C dM_chunks_9 3 rfl rfl ?_
  refine gx_aload_n C dM_chunks_10 0 rfl rfl ?_
  refine gx_get C mo_this hi_M 9 (by decide) fl_M_68 rfl dM_chunks_11 ?_
  obtain ⟨ht, hf⟩ := hs
  refine gx_icmp_ge C dM_chunks_14 45 rfl (fun hc => ?_) (fun hc => ?_)
  · have hs := ht hc
    refine gx_iload_n C dM_chunks_45 2 rfl rfl ?_
    exact gx_iret C hr hlocks dM_chunks_46 hs
  · have hs := hf hc
    refine gx_iload_n C dM_chunks_17 1 rfl rfl ?_
    obtain ⟨ht, hf⟩ := hs
    refine gx_if_eq C dM_chunks_18 31 rfl (fun hc => ?_) (fun hc => ?_)
    · have hs := ht hc
      refine gx_iload_n C dM_chunks_31 2 rfl rfl ?_
      refine gx_iconst (v := 1) C dM_chunks_32 (by decide) ?_
      refine gx_iadd C dM_chunks_33 ?_
      refine gx_goto C dM_chunks_34 38 rfl ?_
      refine gx_top (fun y1 ey1 => ?_)
      replace hs := hs y1 ey1
      refine gx_istore_n (L' := [(2, .int y1), (0, .ref (o 0)), (1, .int v1), (3, .int v3)]) C dM_chunks_38 rfl (by decide) rfl ?_
      refine gx_iinc (v0 := 1) (f := fun v => [(3, .int v), (2, .int y1), (0, .ref (o 0)), (1, .int v1)]) C dM_chunks_39 3 rfl (by decide) (by decide) (fun _ => rfl) (fun y2 ey2 => ?_)
      replace hs := hs y2 ey2
      refine gx_goto C dM_chunks_42 9 rfl ?_
      exact gx_sub [2, 3, 1, 0] rfl hs
    · have hs := hf hc
      refine gx_aload_n C dM_chunks_21 0 rfl rfl ?_
      refine gx_get C mo_this hi_M 11 (by decide) fl_M_32 rfl dM_chunks_22 ?_
      refine gx_iload_n C dM_chunks_25 3 rfl rfl ?_
      obtain ⟨hin, hs⟩ := hs
      refine gx_iald C ma_lengths hin dM_chunks_26 ?_
      refine gx_iload_n C dM_chunks_27 1 rfl rfl ?_
      obtain ⟨ht, hf⟩ := hs
      refine gx_icmp_ne C dM_chunks_28 37 rfl (fun hc => ?_) (fun hc => ?_)
      · have hs := ht hc
        refine gx_iload_n C dM_chunks_37 2 rfl rfl ?_
        refine gx_istore_n (L' := [(2, .int v2), (0, .ref (o 0)), (1, .int v1), (3, .int v3)]) C dM_chunks_38 rfl (by decide) rfl ?_
        refine gx_iinc (v0 := 1) (f := fun v => [(3, .int v), (2, .int v2), (0, .ref (o 0)), (1, .int v1)]) C dM_chunks_39 3 rfl (by decide) (by decide) (fun _ => rfl) (fun y3 ey3 => ?_)
        replace hs := hs y3 ey3
        refine gx_goto C dM_chunks_42 9 rfl ?_
        exact gx_sub [2, 3, 1, 0] rfl hs
      · have hs := hf hc
        refine gx_iload_n C dM_chunks_31 2 rfl rfl ?_
        refine gx_iconst (v := 1) C dM_chunks_32 (by decide) ?_
        refine gx_iadd C dM_chunks_33 ?_
        refine gx_goto C dM_chunks_34 38 rfl ?_
        refine gx_top (fun y4 ey4 => ?_)
        replace hs := hs y4 ey4
        refine gx_istore_n (L' := [(2, .int y4), (0, .ref (o 0)), (1, .int v1), (3, .int v3)]) C dM_chunks_38 rfl (by decide) rfl ?_
        refine gx_iinc (v0 := 1) (f := fun v => [(3, .int v), (2, .int y4), (0, .ref (o 0)), (1, .int v1)]) C dM_chunks_39 3 rfl (by decide) (by decide) (fun _ => rfl) (fun y5 ey5 => ?_)
        replace hs := hs y5 ey5
        refine gx_goto C dM_chunks_42 9 rfl ?_
        exact gx_sub [2, 3, 1, 0] rfl hs
set_option maxHeartbeats 4000000 in
set_option maxRecDepth 100000 in
theorem mt_M_chunks (l : Launch) (dC : Nat → ClassId) (dI : Nat → Nat → Nat) (cI cZ : ClassId) (o : Nat → Nat) (v1 : Int32) (S : GS) (post : Int32 → GS → Prop) (h : wp_M_chunks [v1] S post) : MetI l yM_chunks (Cond.code yM_chunks cM_chunks 4 (some .int) :: wsA) ({ frames := 0, cells := 0, slots := 0, locals := 0 }) (dC, dI) gx_cl [(cI, .int), (cZ, .boolean)] (mw cI cZ o) [.ref (o 0), .int v1] S post := by
  refine gx_metI (by decide) wsA_good (Nat.le_of_ble_eq_true rfl) ?_
  intro p e s m args below meth c A C hr hlocks
  refine h (vh_M_chunks o (GV p l e ({ frames := 0, cells := 0, slots := 0, locals := 0 }) s m args below meth c (MQ below (va_Qi post (GB (mw cI cZ o) (dC, dI) gx_cl [(cI, .int), (cZ, .boolean)] A) A) args s 0 0 A) 4 (dC, dI) gx_cl A (mw cI cZ o))) (fun h S xs hs => ?_)
  unfold sp_M_chunks at hs
  split at hs
  · exact wk_M_chunks_0 C hr hlocks _ _ hs
  · exact wk_M_chunks_9 C hr hlocks _ _ _ _ hs
  · exact hs.elim
/-- CountedObjectsModel.free()I: a step from head to head -/
def sp_M_free (post : Int32 → GS → Prop) (V : Nat → GS → List Int32 → Prop) (h : Nat) (S : GS) (xs : List Int32) : Prop := match h, xs with
  | 0, [] => (∀ S1 : GS, S1 = gx_set 100 0 0 S → wp_M_freeWords  [] S1 (fun r3 S2 => post r3 S2))
  | _, _ => False
def wp_M_free (xs : List Int32) (S : GS) (post : Int32 → GS → Prop) : Prop := ∀ V : Nat → GS → List Int32 → Prop, (∀ h S xs, sp_M_free post V h S xs → V h S xs) → V 0 S xs
def vh_M_free (o : Nat → Nat) (G : GS → Nat → List (Nat × Value) → List Value → Prop) (h : Nat) (S : GS) (xs : List Int32) : Prop := match h, xs with
  | 0, [] => G S 0 [(0, .ref (o 0))] []
  | _, _ => True
set_option maxHeartbeats 4000000 in
set_option maxRecDepth 100000 in
theorem wk_M_free_0 {l : Launch} {dC : Nat → ClassId} {dI : Nat → Nat → Nat} {cI cZ : ClassId} {o : Nat → Nat}  {p : Program} {e : Env} {s : State} {m : MethodId} {args : Array Value} {below : List Frame} {meth : Method} {c : Code} {A : Nat → Prop} {post : Int32 → GS → Prop} (C : GC p s m args c cM_free 1 RM wsA (dC, dI) gx_cl [(cI, .int), (cZ, .boolean)] A) (hr : meth.sig.returnType = (some .int)) (hlocks : meth.locks = false) (S : GS) (hs : sp_M_free post (vh_M_free o (GV p l e ({ frames := 1, cells := 0, slots := 0, locals := 22 }) s m args below meth c (MQ below (va_Qi post (GB (mw cI cZ o) (dC, dI) gx_cl [(cI, .int), (cZ, .boolean)] A) A) args s 0 0 A) 1 (dC, dI) gx_cl A (mw cI cZ o))) 0 S []) : GV p l e ({ frames := 1, cells := 0, slots := 0, locals := 22 }) s m args below meth c (MQ below (va_Qi post (GB (mw cI cZ o) (dC, dI) gx_cl [(cI, .int), (cZ, .boolean)] A) A) args s 0 0 A) 1 (dC, dI) gx_cl A (mw cI cZ o) S 0 [(0, .ref (o 0))] [] := by
  refine gx_aload_n C dM_free_0 0 rfl rfl ?_
  refine gx_iconst (v := 0) C dM_free_1 (by decide) ?_
  refine gx_put C mo_this hi_M tyM tyM_ok nmM 0 (by decide) fl_M_58 rfl (by decide +kernel) (Nat.le_of_ble_eq_true rfl) (mp_thrown _ _) dM_free_2 (fun S1 eS1 => ?_)
  replace hs := hs S1 eS1
  refine gx_aload_n C dM_free_5 0 rfl rfl ?_
  refine gx_calli (As := []) (rest := []) C (mt_M_freeWords l dC dI cI cZ o  _ _ hs) (gx_cwV C 0 ln_M_78 im_M_freeWords se_M_freeWords in_CountedObjectsModel cd_M_freeWords rfl rfl (by decide +kernel) ⟨Nat.le_of_ble_eq_true rfl, Nat.le_of_ble_eq_true rfl⟩) mo_this rfl (Nat.le_of_ble_eq_true rfl) dM_free_6 (fun S1 => mw_ad _ S1) rfl (fun r3 S2 hs => ?_)
  exact gx_iret C hr hlocks dM_free_9 hs
set_option maxHeartbeats 4000000 in
set_option maxRecDepth 100000 in
theorem mt_M_free (l : Launch) (dC : Nat → ClassId) (dI : Nat → Nat → Nat) (cI cZ : ClassId) (o : Nat → Nat) (S : GS) (post : Int32 → GS → Prop) (h : wp_M_free [] S post) : MetI l yM_free (Cond.code yM_free cM_free 1 (some .int) :: wsA) ({ frames := 1, cells := 0, slots := 0, locals := 22 }) (dC, dI) gx_cl [(cI, .int), (cZ, .boolean)] (mw cI cZ o) [.ref (o 0)] S post := by
  refine gx_metI (by decide) wsA_good (Nat.le_of_ble_eq_true rfl) ?_
  intro p e s m args below meth c A C hr hlocks
  refine h (vh_M_free o (GV p l e ({ frames := 1, cells := 0, slots := 0, locals := 22 }) s m args below meth c (MQ below (va_Qi post (GB (mw cI cZ o) (dC, dI) gx_cl [(cI, .int), (cZ, .boolean)] A) A) args s 0 0 A) 1 (dC, dI) gx_cl A (mw cI cZ o))) (fun h S xs hs => ?_)
  unfold sp_M_free at hs
  split at hs
  · exact wk_M_free_0 C hr hlocks _ hs
  · exact hs.elim
/-- CountedObjectsModel.objects()I: a step from head to head -/
def sp_M_objects (post : Int32 → GS → Prop) (V : Nat → GS → List Int32 → Prop) (h : Nat) (S : GS) (xs : List Int32) : Prop := match h, xs with
  | 0, [] => (∀ S1 : GS, S1 = gx_set 100 0 0 S → ∀ y2 : Int32, y2 = 0 → ∀ y3 : Int32, y3 = 1 → V 9 S1 [y2, y3])
  | 9, [v1, v2] => (((S 100 2) < v2 → post v1 S) ∧ (¬ (S 100 2) < v2 → (vp_in v2 41 ∧ (((S 1 (v2).toNatClampNeg) = 0 → (∀ y1 : Int32, y1 = v2 + 1 → V 9 S [v1, y1])) ∧ (¬ (S 1 (v2).toNatClampNeg) = 0 → ∀ y2 : Int32, y2 = v1 + 1 → (∀ y3 : Int32, y3 = v2 + 1 → V 9 S [y2, y3]))))))
  | _, _ => False
def wp_M_objects (xs : List Int32) (S : GS) (post : Int32 → GS → Prop) : Prop := ∀ V : Nat → GS → List Int32 → Prop, (∀ h S xs, sp_M_objects post V h S xs → V h S xs) → V 0 S xs
def vh_M_objects (o : Nat → Nat) (G : GS → Nat → List (Nat × Value) → List Value → Prop) (h : Nat) (S : GS) (xs : List Int32) : Prop := match h, xs with
  | 0, [] => G S 0 [(0, .ref (o 0))] []
  | 9, [v1, v2] => G S 9 [(0, .ref (o 0)), (1, .int v1), (2, .int v2)] []
  | _, _ => True
set_option maxHeartbeats 4000000 in
set_option maxRecDepth 100000 in
theorem wk_M_objects_0 {l : Launch} {dC : Nat → ClassId} {dI : Nat → Nat → Nat} {cI cZ : ClassId} {o : Nat → Nat}  {p : Program} {e : Env} {s : State} {m : MethodId} {args : Array Value} {below : List Frame} {meth : Method} {c : Code} {A : Nat → Prop} {post : Int32 → GS → Prop} (C : GC p s m args c cM_objects 3 RM wsA (dC, dI) gx_cl [(cI, .int), (cZ, .boolean)] A) (hr : meth.sig.returnType = (some .int)) (hlocks : meth.locks = false) (S : GS) (hs : sp_M_objects post (vh_M_objects o (GV p l e ({ frames := 0, cells := 0, slots := 0, locals := 0 }) s m args below meth c (MQ below (va_Qi post (GB (mw cI cZ o) (dC, dI) gx_cl [(cI, .int), (cZ, .boolean)] A) A) args s 0 0 A) 3 (dC, dI) gx_cl A (mw cI cZ o))) 0 S []) : GV p l e ({ frames := 0, cells := 0, slots := 0, locals := 0 }) s m args below meth c (MQ below (va_Qi post (GB (mw cI cZ o) (dC, dI) gx_cl [(cI, .int), (cZ, .boolean)] A) A) args s 0 0 A) 3 (dC, dI) gx_cl A (mw cI cZ o) S 0 [(0, .ref (o 0))] [] := by
  refine gx_aload_n C dM_objects_0 0 rfl rfl ?_
  refine gx_iconst (v := 0) C dM_objects_1 (by decide) ?_
  refine gx_put C mo_this hi_M tyM tyM_ok nmM 0 (by decide) fl_M_58 rfl (by decide +kernel) (Nat.le_of_ble_eq_true rfl) (mp_thrown _ _) dM_objects_2 (fun S1 eS1 => ?_)
  replace hs := hs S1 eS1
  refine gx_iconst (v := 0) C dM_objects_5 (by decide) ?_
  refine gx_top (fun y2 ey2 => ?_)
  replace hs := hs y2 ey2
  refine gx_istore_n (L' := [(1, .int y2), (0, .ref (o 0))]) C dM_objects_6 rfl (by decide) rfl ?_
  refine gx_iconst (v := 1) C dM_objects_7 (by decide) ?_
  refine gx_top (fun y3 ey3 => ?_)
  replace hs := hs y3 ey3
  refine gx_istore_n (L' := [(2, .int y3), (1, .int y2), (0, .ref (o 0))]) C dM_objects_8 rfl (by decide) rfl ?_
  exact gx_sub [2, 1, 0] rfl hs
set_option maxHeartbeats 4000000 in
set_option maxRecDepth 100000 in
theorem wk_M_objects_9 {l : Launch} {dC : Nat → ClassId} {dI : Nat → Nat → Nat} {cI cZ : ClassId} {o : Nat → Nat}  {p : Program} {e : Env} {s : State} {m : MethodId} {args : Array Value} {below : List Frame} {meth : Method} {c : Code} {A : Nat → Prop} {post : Int32 → GS → Prop} (C : GC p s m args c cM_objects 3 RM wsA (dC, dI) gx_cl [(cI, .int), (cZ, .boolean)] A) (hr : meth.sig.returnType = (some .int)) (hlocks : meth.locks = false) (S : GS) (v1 : Int32) (v2 : Int32) (hs : sp_M_objects post (vh_M_objects o (GV p l e ({ frames := 0, cells := 0, slots := 0, locals := 0 }) s m args below meth c (MQ below (va_Qi post (GB (mw cI cZ o) (dC, dI) gx_cl [(cI, .int), (cZ, .boolean)] A) A) args s 0 0 A) 3 (dC, dI) gx_cl A (mw cI cZ o))) 9 S [v1, v2]) : GV p l e ({ frames := 0, cells := 0, slots := 0, locals := 0 }) s m args below meth c (MQ below (va_Qi post (GB (mw cI cZ o) (dC, dI) gx_cl [(cI, .int), (cZ, .boolean)] A) A) args s 0 0 A) 3 (dC, dI) gx_cl A (mw cI cZ o) S 9 [(0, .ref (o 0)), (1, .int v1), (2, .int v2)] [] := by
  refine gx_iload_n C dM_objects_9 2 rfl rfl ?_
  refine gx_aload_n C dM_objects_10 0 rfl rfl ?_
  refine gx_get C mo_this hi_M 2 (by decide) fl_M_51 rfl dM_objects_11 ?_
  obtain ⟨ht, hf⟩ := hs
  refine gx_icmp_gt C dM_objects_14 40 rfl (fun hc => ?_) (fun hc => ?_)
  · have hs := ht hc
    refine gx_iload_n C dM_objects_40 1 rfl rfl ?_
    exact gx_iret C hr hlocks dM_objects_41 hs
  · have hs := hf hc
    refine gx_aload_n C dM_objects_17 0 rfl rfl ?_
    refine gx_get C mo_this hi_M 4 (by decide) fl_M_13 rfl dM_objects_18 ?_
    refine gx_iload_n C dM_objects_21 2 rfl rfl ?_
    obtain ⟨hin, hs⟩ := hs
    refine gx_zald C ma_lives hin dM_objects_22 ?_
    obtain ⟨ht, hf⟩ := hs
    refine gx_if_eq C dM_objects_23 32 rfl (fun hc => ?_) (fun hc => ?_)
    · have hs := ht hc
      refine gx_iload_n C dM_objects_32 1 rfl rfl ?_
      refine gx_istore_n (L' := [(1, .int v1), (0, .ref (o 0)), (2, .int v2)]) C dM_objects_33 rfl (by decide) rfl ?_
      refine gx_iinc (v0 := 1) (f := fun v => [(2, .int v), (1, .int v1), (0, .ref (o 0))]) C dM_objects_34 2 rfl (by decide) (by decide) (fun _ => rfl) (fun y1 ey1 => ?_)
      replace hs := hs y1 ey1
      refine gx_goto C dM_objects_37 9 rfl ?_
      exact gx_sub [2, 1, 0] rfl hs
    · have hs := hf hc
      refine gx_iload_n C dM_objects_26 1 rfl rfl ?_
      refine gx_iconst (v := 1) C dM_objects_27 (by decide) ?_
      refine gx_iadd C dM_objects_28 ?_
      refine gx_goto C dM_objects_29 33 rfl ?_
      refine gx_top (fun y2 ey2 => ?_)
      replace hs := hs y2 ey2
      refine gx_istore_n (L' := [(1, .int y2), (0, .ref (o 0)), (2, .int v2)]) C dM_objects_33 rfl (by decide) rfl ?_
      refine gx_iinc (v0 := 1) (f := fun v => [(2, .int v), (1, .int y2), (0, .ref (o 0))]) C dM_objects_34 2 rfl (by decide) (by decide) (fun _ => rfl) (fun y3 ey3 => ?_)
      replace hs := hs y3 ey3
      refine gx_goto C dM_objects_37 9 rfl ?_
      exact gx_sub [2, 1, 0] rfl hs
set_option maxHeartbeats 4000000 in
set_option maxRecDepth 100000 in
theorem mt_M_objects (l : Launch) (dC : Nat → ClassId) (dI : Nat → Nat → Nat) (cI cZ : ClassId) (o : Nat → Nat) (S : GS) (post : Int32 → GS → Prop) (h : wp_M_objects [] S post) : MetI l yM_objects (Cond.code yM_objects cM_objects 3 (some .int) :: wsA) ({ frames := 0, cells := 0, slots := 0, locals := 0 }) (dC, dI) gx_cl [(cI, .int), (cZ, .boolean)] (mw cI cZ o) [.ref (o 0)] S post := by
  refine gx_metI (by decide) wsA_good (Nat.le_of_ble_eq_true rfl) ?_
  intro p e s m args below meth c A C hr hlocks
  refine h (vh_M_objects o (GV p l e ({ frames := 0, cells := 0, slots := 0, locals := 0 }) s m args below meth c (MQ below (va_Qi post (GB (mw cI cZ o) (dC, dI) gx_cl [(cI, .int), (cZ, .boolean)] A) A) args s 0 0 A) 3 (dC, dI) gx_cl A (mw cI cZ o))) (fun h S xs hs => ?_)
  unfold sp_M_objects at hs
  split at hs
  · exact wk_M_objects_0 C hr hlocks _ hs
  · exact wk_M_objects_9 C hr hlocks _ _ _ hs
  · exact hs.elim
end
section
/-! Arrays.fill of an int array of the world; the room of letting go. -/
def RJ : String := "java/util/Arrays"
abbrev cJ_fill : ByteArray := prog_13_method_103_code
def yJ_fill : MethodName := ⟨RJ, "fill", "([II)V"⟩
theorem dJ_fill_0 : decode cJ_fill 0 = .ok (.iconst 0, 1) := by decide +kernel
theorem dJ_fill_1 : decode cJ_fill 1 = .ok (.istore_n 2, 1) := by decide +kernel
theorem dJ_fill_2 : decode cJ_fill 2 = .ok (.aload_n 0, 1) := by decide +kernel
theorem dJ_fill_3 : decode cJ_fill 3 = .ok (.arraylength, 1) := by decide +kernel
theorem dJ_fill_4 : decode cJ_fill 4 = .ok (.istore_n 3, 1) := by decide +kernel
theorem dJ_fill_5 : decode cJ_fill 5 = .ok (.iload_n 2, 1) := by decide +kernel
theorem dJ_fill_6 : decode cJ_fill 6 = .ok (.iload_n 3, 1) := by decide +kernel
theorem dJ_fill_7 : decode cJ_fill 7 = .ok (.if_icmp .ge 13, 3) := by decide +kernel
theorem dJ_fill_10 : decode cJ_fill 10 = .ok (.aload_n 0, 1) := by decide +kernel
theorem dJ_fill_11 : decode cJ_fill 11 = .ok (.iload_n 2, 1) := by decide +kernel
theorem dJ_fill_12 : decode cJ_fill 12 = .ok (.iload_n 1, 1) := by decide +kernel
theorem dJ_fill_13 : decode cJ_fill 13 = .ok (.iastore, 1) := by decide +kernel
theorem dJ_fill_14 : decode cJ_fill 14 = .ok (.iinc 2 1, 3) := by decide +kernel
theorem dJ_fill_17 : decode cJ_fill 17 = .ok (.goto (-12), 3) := by decide +kernel
theorem dJ_fill_20 : decode cJ_fill 20 = .ok (.return_, 1) := by decide +kernel
def fl_row (k n : Nat) (v : Int32) (S : GS) : GS := gx_row k (fun j => if j < n then v else S k j) S
theorem fl_0 (k : Nat) (v : Int32) (S : GS) : fl_row k 0 v S = S := by
  funext b
  unfold fl_row gx_row
  by_cases h : b = k
  · subst h; simp
  · simp [h]
theorem fl_s (k n : Nat) (v : Int32) (S : GS) : gx_set k n v (fl_row k n v S) = fl_row k (n + 1) v S := by
  funext b
  unfold fl_row gx_set gx_row
  by_cases h : b = k
  · subst h
    simp only [if_true]
    funext j
    unfold upd
    by_cases hj : j = n
    · subst hj; simp
    · rw [if_neg hj]
      show (if j < n then v else S b j) = _
      by_cases h2 : j < n
      · rw [if_pos h2, if_pos (by omega)]
      · rw [if_neg h2, if_neg (by omega)]
  · simp [h]
theorem gx_metVF {l : Launch} {y : MethodName} {Ts : List Cond} {rm : Room} {cc : ByteArray} {maxL : Nat} {D : va_G} {cl : List vw_C} {tys : List (ClassId × FieldType)} {wd : GS → va_W} {av : List Value} {S : GS} {post : GS → Prop} {ret : Option FieldType} (hy : plainFor y = true) (hgood : ∀ w ∈ Ts, goodWord w = true) (hlen : (lg_sl av).length ≤ maxL)
    (body : ∀ (p : Program) (e : Env) (s : State) (m : MethodId) (args : Array Value) (below : List Frame) (meth : Method) (c : Code) (A : Nat → Prop), GC p s m args c cc maxL y.cls Ts D cl tys A → meth.sig.returnType = ret → meth.locks = false → GV p l e rm s m args below meth c (MQ below (va_Qv post (GB wd D cl tys A) A) args s 0 0 A) maxL D cl A wd S 0 (lv_args 0 av) []) : MetV l y (Cond.code y cc maxL ret :: Ts) rm D cl tys wd av S post := by
  intro sz
  refine va_MetF (cc := cc) (maxL := maxL) (ret := ret) hy rfl ?_
  intro p e s m args below meth c s₁ B hml hv
  obtain ⟨rfl, hsz, hP, hK, hD0⟩ := hv
  subst hsz
  rw [lg_entry_eq]
  refine body p e s m av.toArray below meth c (va_A (wd S) s.heap.size) ⟨⟨B.exec, B.bytes, hml, findClass_of_methodNamed B.named, fun w hw => atoms_spec (ws := Cond.code y cc maxL ret :: Ts) B.pre w (List.mem_cons_of_mem _ hw)⟩, hK, fun q h => Or.inr h, hgood⟩ B.returns B.notSynchronized s.heap [] _ (lv_entry av hlen) hP hD0.self va_S.rf
set_option maxHeartbeats 4000000 in
set_option maxRecDepth 100000 in
theorem mt_fill (l : Launch) {D : va_G} {cl : List vw_C} {tys : List (ClassId × FieldType)} {wd : GS → va_W} {q a k n : Nat} (hA : GA wd tys q a k n .int) (hn : n < 2 ^ 31) (v : Int32) (S : GS) (post : GS → Prop) (h : post (fl_row k n v S)) : MetV l yJ_fill (Cond.code yJ_fill cJ_fill 4 none :: wsA) ({ frames := 0, cells := 0, slots := 0, locals := 0 }) D cl tys wd [.ref a, .int v] S post := by
  refine gx_metVF (by decide) wsA_good (Nat.le_of_ble_eq_true rfl) ?_
  intro p e s m args below meth c A C hr hlocks
  have loop : ∀ (r i : Nat), i + r = n → GV p l e { frames := 0, cells := 0, slots := 0, locals := 0 } s m args below meth c (MQ below (va_Qv post (GB wd D cl tys A) A) args s 0 0 A) 4 D cl A wd (fl_row k i v S) 5 [(2, .int (nI i)), (3, .int (nI n)), (0, .ref a), (1, .int v)] [] := by
    intro r
    induction r with
    | zero =>
      intro i hi
      refine gx_iload_n C dJ_fill_5 0 rfl rfl ?_
      refine gx_iload_n C dJ_fill_6 1 rfl rfl ?_
      refine gx_icmp_ge C dJ_fill_7 20 rfl (fun _ => ?_) (fun hc => ?_)
      · refine gx_vret C hr hlocks dJ_fill_20 ?_
        have : i = n := by omega
        rw [this]
        exact h
      · exact absurd (nI_le (a := n) (b := i) (by omega) (by omega)) hc
    | succ r ih =>
      intro i hi
      refine gx_iload_n C dJ_fill_5 0 rfl rfl ?_
      refine gx_iload_n C dJ_fill_6 1 rfl rfl ?_
      refine gx_icmp_ge C dJ_fill_7 20 rfl (fun hc => ?_) (fun _ => ?_)
      · exact absurd hc (nI_ge (a := i) (b := n) (by omega) hn)
      · refine gx_aload_n C dJ_fill_10 2 rfl rfl ?_
        refine gx_iload_n C dJ_fill_11 0 rfl rfl ?_
        refine gx_iload_n C dJ_fill_12 3 rfl rfl ?_
        refine gx_iast C hA (vp_in_nI (by omega) hn) dJ_fill_13 (fun S1 e1 => ?_)
        rw [nI_clamp (by omega), fl_s] at e1
        subst e1
        refine gx_iinc (v0 := 1) (f := fun w => [(2, .int w), (3, .int (nI n)), (0, .ref a), (1, .int v)]) C dJ_fill_14 0 rfl (by decide) (by decide) (fun _ => rfl) (fun w ew => ?_)
        rw [nI_1] at ew
        subst ew
        refine gx_goto C dJ_fill_17 5 rfl ?_
        exact ih (i + 1) (by omega)
  refine gx_iconst (v := 0) C dJ_fill_0 (by decide) ?_
  refine gx_istore_n (L' := [(2, .int 0), (0, .ref a), (1, .int v)]) C dJ_fill_1 rfl (by decide) rfl ?_
  refine gx_aload_n C dJ_fill_2 1 rfl rfl ?_
  refine gx_alen C hA dJ_fill_3 ?_
  refine gx_istore_n (L' := [(3, .int (nI n)), (2, .int 0), (0, .ref a), (1, .int v)]) C dJ_fill_4 rfl (by decide) rfl ?_
  refine gx_sub [1, 0, 2, 3] rfl ?_
  have := loop n 0 (by omega)
  rw [fl_0, nI_0] at this
  exact this
theorem ln_X_51 : Cond.methodLink RX 51 yJ_fill ∈ wsA := wsA_in (i := 45) (by decide +kernel) (by decide +kernel)
theorem sm_J_fill : Cond.static yJ_fill ∈ wsA := wsA_in (i := 46) (by decide +kernel) (by decide +kernel)
theorem cd_J_fill : Cond.code yJ_fill cJ_fill 4 none ∈ wsA := wsA_in (i := 47) (by decide +kernel) (by decide +kernel)
section GXF
variable {p : Program} {l : Launch} {e : Env} {R : Room} {s : State} {m : MethodId} {args : Array Value} {below : List Frame} {meth : Method} {c : Code} {Q : State → Prop}
variable {cc : ByteArray} {nL : Nat} {D : va_G} {cl : List vw_C} {tys : List (ClassId × FieldType)} {A : Nat → Prop} {wd : GS → va_W}
variable {S : GS} {pc : Nat} {L : List (Nat × Value)} {st : List Value}
theorem gx_fill (C : GC p s m args c cc nL RX wsA D cl tys A) {q a k n : Nat} (hA : GA wd tys q a k n .int) (hn : n < 2 ^ 31) {v : Int32} (hfr : 1 ≤ R.frames) (hlo : 23 ≤ R.locals) (hw : (st.map fun v => v.category).sum ≤ 8) (d : decode cc pc = .ok (.invokestatic 51, 3)) (hAd : ∀ S' : GS, (wd S').map (fun q => q.1) = (wd S).map (fun q => q.1)) (kk : ∀ S1 : GS, S1 = fl_row k n v S → GV p l e R s m args below meth c Q nL D cl A wd S1 (pc + 3) L st) : GV p l e R s m args below meth c Q nL D cl A wd S pc L (.int v :: .ref a :: st) := by
  intro H locs ls h1 h2 h3 h4
  have hFc := gx_free C h3 h4
  have cw : CallB R s args RX 51 yJ_fill cJ_fill 4 none (Cond.code yJ_fill cJ_fill 4 none :: wsA) { frames := 0, cells := 0, slots := 0, locals := 0 } 0 0 2 ∧ (Cond.static yJ_fill).before args s = true := by
    refine va_cwS 2 C.1.2.2.2.2 (gx_good C.2.2.2 ?_) rfl rfl rfl (by decide +kernel) ⟨hfr, hlo⟩
    intro w hw
    unfold va_wsS at hw
    rcases List.mem_append.mp hw with hw | hw
    · rcases List.mem_cons.mp hw with rfl | hw
      · exact ln_X_51
      · rcases List.mem_cons.mp hw with rfl | hw
        · exact sm_J_fill
        · rw [List.mem_singleton.mp hw]; exact in_java_util_Arrays
    · rcases List.mem_cons.mp hw with rfl | hw
      · exact cd_J_fill
      · exact hw
  refine va_callv (va_runS (As := [.ref a, .int v]) (rest := st) C.1 (mt_fill l hA hn v S (fun S1 => S1 = fl_row k n v S) rfl H.size) cw ⟨gx_blind, fun U hU hW => ⟨rfl, by rw [hU], by rw [hU]; exact h2, va_K.moved hW.alike C.2.1, h3.weaken (fun _ _ _ _ => trivial)⟩⟩ rfl rfl h1.1 rfl (lv_room hw) d ⟨Nat.zero_le _, Nat.zero_le _⟩) h4 (fun q _ h => hFc q h) hFc (fun u t H1 locs1 ht hvm hp hB hz hk hS => ?_)
  obtain ⟨hP1, hK1, hD1⟩ := hB
  rw [ht] at hP1
  exact kk u hp H1 locs1 ls h1 hP1 (gx_D (hAd u) h3) hS
end GXF
abbrev rmdl (d : Nat) : Room := { frames := d + 4, cells := 0, slots := 0, locals := 24 * d + 200 }
end
section
/-- CountedObjects.countAnew()V: a step from head to head -/
def sp_X_countAnew (W E : Nat) (post : GS → Prop) (V : Nat → GS → List Int32 → Prop) (h : Nat) (S : GS) (xs : List Int32) : Prop := match h, xs with
  | 0, [] => ((E + 1) < 2 ^ 31 ∧ ∀ S1 : GS, S1 = fl_row 2 (E + 1) 0 S → ∀ y2 : Int32, y2 = 0 → V 10 S1 [y2])
  | 10, [v1] => ((8 ≤ v1 → ∀ y1 : Int32, y1 = 0 → V 34 S [y1]) ∧ (¬ 8 ≤ v1 → (vp_in v1 8 ∧ wp_X_addReference W E [S 3 (v1).toNatClampNeg] S (fun S2 => (∀ y4 : Int32, y4 = v1 + 1 → V 10 S2 [y4])))))
  | 34, [v1] => (((S 100 1) ≤ v1 → post S) ∧ (¬ (S 100 1) ≤ v1 → (vp_in v1 E ∧ ∀ y1 : Int32, y1 = S 5 (v1).toNatClampNeg → (vp_in y1 (E + 1) ∧ wp_X_wordsOf W E [y1] S (fun r3 S2 => ∀ y4 : Int32, y4 = (S 1 (y1).toNatClampNeg) + r3 → (vp_in y1 (E + 1) ∧ ∀ y5 : Int32, y5 = (S2 1 (y1).toNatClampNeg) + 1 → V 72 S2 [v1, y1, y4, y5]))))))
  | 72, [v1, v2, v3, v4] => ((v3 ≤ v4 → (∀ y1 : Int32, y1 = v1 + 1 → V 34 S [y1])) ∧ (¬ v3 ≤ v4 → (vp_in v4 W ∧ wp_X_addReference W E [S 0 (v4).toNatClampNeg] S (fun S2 => (∀ y4 : Int32, y4 = v4 + 1 → V 72 S2 [v1, v2, v3, y4])))))
  | _, _ => False
def wp_X_countAnew (W E : Nat) (xs : List Int32) (S : GS) (post : GS → Prop) : Prop := ∀ V : Nat → GS → List Int32 → Prop, (∀ h S xs, sp_X_countAnew W E post V h S xs → V h S xs) → V 0 S xs
def vh_X_countAnew (o : Nat → Nat) (G : GS → Nat → List (Nat × Value) → List Value → Prop) (h : Nat) (S : GS) (xs : List Int32) : Prop := match h, xs with
  | 0, [] => G S 0 [(0, .ref (o 0))] []
  | 10, [v1] => G S 10 [(0, .ref (o 0)), (1, .int v1)] []
  | 34, [v1] => G S 34 [(0, .ref (o 0)), (1, .int v1)] []
  | 72, [v1, v2, v3, v4] => G S 72 [(0, .ref (o 0)), (1, .int v1), (2, .int v2), (3, .int v3), (4, .int v4)] []
  | _, _ => True
set_option maxHeartbeats 4000000 in
set_option maxRecDepth 100000 in
theorem wk_X_countAnew_0 {l : Launch} {dC : Nat → ClassId} {dI : Nat → Nat → Nat} {cI cZ : ClassId} {o : Nat → Nat} {W E : Nat} {p : Program} {e : Env} {s : State} {m : MethodId} {args : Array Value} {below : List Frame} {meth : Method} {c : Code} {A : Nat → Prop} {post : GS → Prop} (C : GC p s m args c cX_countAnew 5 RX wsA (dC, dI) gx_cl [(cI, .int), (cZ, .boolean)] A) (hr : meth.sig.returnType = none) (hlocks : meth.locks = false) (S : GS) (hs : sp_X_countAnew W E post (vh_X_countAnew o (GV p l e ({ frames := 3, cells := 0, slots := 0, locals := 68 }) s m args below meth c (MQ below (va_Qv post (GB (xw cI cZ o W E) (dC, dI) gx_cl [(cI, .int), (cZ, .boolean)] A) A) args s 0 0 A) 5 (dC, dI) gx_cl A (xw cI cZ o W E))) 0 S []) : GV p l e ({ frames := 3, cells := 0, slots := 0, locals := 68 }) s m args below meth c (MQ below (va_Qv post (GB (xw cI cZ o W E) (dC, dI) gx_cl [(cI, .int), (cZ, .boolean)] A) A) args s 0 0 A) 5 (dC, dI) gx_cl A (xw cI cZ o W E) S 0 [(0, .ref (o 0))] [] := by
  refine gx_aload_n C dX_countAnew_0 0 rfl rfl ?_
  refine gx_get C xo_this hi_X 2 (by decide) fl_X_25 rfl dX_countAnew_1 ?_
  refine gx_iconst (v := 0) C dX_countAnew_4 (by decide) ?_
  obtain ⟨hn, hs⟩ := hs
  refine gx_fill C xa_counts hn (Nat.le_of_ble_eq_true rfl) (Nat.le_of_ble_eq_true rfl) (Nat.le_of_ble_eq_true rfl) dX_countAnew_5 (fun S1 => xw_ad _ S1) (fun S1 eS1 => ?_)
  replace hs := hs S1 eS1
  refine gx_iconst (v := 0) C dX_countAnew_8 (by decide) ?_
  refine gx_top (fun y2 ey2 => ?_)
  replace hs := hs y2 ey2
  refine gx_istore_n (L' := [(1, .int y2), (0, .ref (o 0))]) C dX_countAnew_9 rfl (by decide) rfl ?_
  exact gx_sub [1, 0] rfl hs
set_option maxHeartbeats 4000000 in
set_option maxRecDepth 100000 in
theorem wk_X_countAnew_10 {l : Launch} {dC : Nat → ClassId} {dI : Nat → Nat → Nat} {cI cZ : ClassId} {o : Nat → Nat} {W E : Nat} {p : Program} {e : Env} {s : State} {m : MethodId} {args : Array Value} {below : List Frame} {meth : Method} {c : Code} {A : Nat → Prop} {post : GS → Prop} (C : GC p s m args c cX_countAnew 5 RX wsA (dC, dI) gx_cl [(cI, .int), (cZ, .boolean)] A) (hr : meth.sig.returnType = none) (hlocks : meth.locks = false) (S : GS) (v1 : Int32) (hs : sp_X_countAnew W E post (vh_X_countAnew o (GV p l e ({ frames := 3, cells := 0, slots := 0, locals := 68 }) s m args below meth c (MQ below (va_Qv post (GB (xw cI cZ o W E) (dC, dI) gx_cl [(cI, .int), (cZ, .boolean)] A) A) args s 0 0 A) 5 (dC, dI) gx_cl A (xw cI cZ o W E))) 10 S [v1]) : GV p l e ({ frames := 3, cells := 0, slots := 0, locals := 68 }) s m args below meth c (MQ below (va_Qv post (GB (xw cI cZ o W E) (dC, dI) gx_cl [(cI, .int), (cZ, .boolean)] A) A) args s 0 0 A) 5 (dC, dI) gx_cl A (xw cI cZ o W E) S 10 [(0, .ref (o 0)), (1, .int v1)] [] := by
  refine gx_iload_n C dX_countAnew_10 1 rfl rfl ?_
  refine gx_bipush (v := 8) C dX_countAnew_11 (by decide) ?_
  obtain ⟨ht, hf⟩ := hs
  refine gx_icmp_ge C dX_countAnew_13 32 rfl (fun hc => ?_) (fun hc => ?_)
  · have hs := ht hc
    refine gx_iconst (v := 0) C dX_countAnew_32 (by decide) ?_
    refine gx_top (fun y1 ey1 => ?_)
    replace hs := hs y1 ey1
    refine gx_istore_n (L' := [(1, .int y1), (0, .ref (o 0))]) C dX_countAnew_33 rfl (by decide) rfl ?_
    exact gx_sub [1, 0] rfl hs
  · have hs := hf hc
    refine gx_aload_n C dX_countAnew_16 0 rfl rfl ?_
    refine gx_aload_n C dX_countAnew_17 0 rfl rfl ?_
    refine gx_get C xo_this hi_X 3 (by decide) fl_X_28 rfl dX_countAnew_18 ?_
    refine gx_iload_n C dX_countAnew_21 1 rfl rfl ?_
    obtain ⟨hin, hs⟩ := hs
    refine gx_iald C xa_registers hin dX_countAnew_22 ?_
    refine gx_callv (As := [.int (S 3 (v1).toNatClampNeg)]) (rest := []) C (mt_X_addReference l dC dI cI cZ o W E _ _ _ hs) (gx_cwV C 1 ln_X_97 im_X_addReference se_X_addReference in_CountedObjects cd_X_addReference rfl rfl (by decide +kernel) ⟨Nat.le_of_ble_eq_true rfl, Nat.le_of_ble_eq_true rfl⟩) xo_this rfl (Nat.le_of_ble_eq_true rfl) dX_countAnew_23 (fun S1 => xw_ad _ S1) rfl (fun S2 hs => ?_)
    refine gx_iinc (v0 := 1) (f := fun v => [(1, .int v), (0, .ref (o 0))]) C dX_countAnew_26 1 rfl (by decide) (by decide) (fun _ => rfl) (fun y4 ey4 => ?_)
    replace hs := hs y4 ey4
    refine gx_goto C dX_countAnew_29 10 rfl ?_
    exact gx_sub [1, 0] rfl hs
set_option maxHeartbeats 4000000 in
set_option maxRecDepth 100000 in
theorem wk_X_countAnew_34 {l : Launch} {dC : Nat → ClassId} {dI : Nat → Nat → Nat} {cI cZ : ClassId} {o : Nat → Nat} {W E : Nat} {p : Program} {e : Env} {s : State} {m : MethodId} {args : Array Value} {below : List Frame} {meth : Method} {c : Code} {A : Nat → Prop} {post : GS → Prop} (C : GC p s m args c cX_countAnew 5 RX wsA (dC, dI) gx_cl [(cI, .int), (cZ, .boolean)] A) (hr : meth.sig.returnType = none) (hlocks : meth.locks = false) (S : GS) (v1 : Int32) (hs : sp_X_countAnew W E post (vh_X_countAnew o (GV p l e ({ frames := 3, cells := 0, slots := 0, locals := 68 }) s m args below meth c (MQ below (va_Qv post (GB (xw cI cZ o W E) (dC, dI) gx_cl [(cI, .int), (cZ, .boolean)] A) A) args s 0 0 A) 5 (dC, dI) gx_cl A (xw cI cZ o W E))) 34 S [v1]) : GV p l e ({ frames := 3, cells := 0, slots := 0, locals := 68 }) s m args below meth c (MQ below (va_Qv post (GB (xw cI cZ o W E) (dC, dI) gx_cl [(cI, .int), (cZ, .boolean)] A) A) args s 0 0 A) 5 (dC, dI) gx_cl A (xw cI cZ o W E) S 34 [(0, .ref (o 0)), (1, .int v1)] [] := by
  refine gx_iload_n C dX_countAnew_34 1 rfl rfl ?_
  refine gx_aload_n C dX_countAnew_35 0 rfl rfl ?_
  refine gx_get C xo_this hi_X 7 (by decide) fl_X_47 rfl dX_countAnew_36 ?_
  obtain ⟨ht, hf⟩ := hs
  refine gx_icmp_ge C dX_countAnew_39 101 rfl (fun hc => ?_) (fun hc => ?_)
  · have hs := ht hc
    exact gx_vret C hr hlocks dX_countAnew_101 hs
  · have hs := hf hc
    refine gx_aload_n C dX_countAnew_42 0 rfl rfl ?_
    refine gx_get C xo_this hi_X 6 (by decide) fl_X_44 rfl dX_countAnew_43 ?_
    refine gx_iload_n C dX_countAnew_46 1 rfl rfl ?_
    obtain ⟨hin, hs⟩ := hs
    refine gx_iald C xa_reachedEntries hin dX_countAnew_47 ?_
    refine gx_top (fun y1 ey1 => ?_)
    replace hs := hs y1 ey1
    refine gx_istore_n (L' := [(2, .int y1), (0, .ref (o 0)), (1, .int v1)]) C dX_countAnew_48 rfl (by decide) rfl ?_
    refine gx_aload_n C dX_countAnew_49 1 rfl rfl ?_
    refine gx_get C xo_this hi_X 1 (by decide) fl_X_22 rfl dX_countAnew_50 ?_
    refine gx_iload_n C dX_countAnew_53 0 rfl rfl ?_
    obtain ⟨hin, hs⟩ := hs
    refine gx_iald C xa_addresses hin dX_countAnew_54 ?_
    refine gx_aload_n C dX_countAnew_55 1 rfl rfl ?_
    refine gx_iload_n C dX_countAnew_56 0 rfl rfl ?_
    refine gx_calli (As := [.int y1]) (rest := [.int (S 1 (y1).toNatClampNeg)]) C (mt_X_wordsOf l dC dI cI cZ o W E _ _ _ hs) (gx_cwV C 1 ln_X_126 im_X_wordsOf se_X_wordsOf in_CountedObjects cd_X_wordsOf rfl rfl (by decide +kernel) ⟨Nat.le_of_ble_eq_true rfl, Nat.le_of_ble_eq_true rfl⟩) xo_this rfl (Nat.le_of_ble_eq_true rfl) dX_countAnew_57 (fun S1 => xw_ad _ S1) rfl (fun r3 S2 hs => ?_)
    refine gx_iadd C dX_countAnew_60 ?_
    refine gx_top (fun y4 ey4 => ?_)
    replace hs := hs y4 ey4
    refine gx_istore_n (L' := [(3, .int y4), (2, .int y1), (0, .ref (o 0)), (1, .int v1)]) C dX_countAnew_61 rfl (by decide) rfl ?_
    refine gx_aload_n C dX_countAnew_62 2 rfl rfl ?_
    refine gx_get C xo_this hi_X 1 (by decide) fl_X_22 rfl dX_countAnew_63 ?_
    refine gx_iload_n C dX_countAnew_66 1 rfl rfl ?_
    obtain ⟨hin, hs⟩ := hs
    refine gx_iald C xa_addresses hin dX_countAnew_67 ?_
    refine gx_iconst (v := 1) C dX_countAnew_68 (by decide) ?_
    refine gx_iadd C dX_countAnew_69 ?_
    refine gx_top (fun y5 ey5 => ?_)
    replace hs := hs y5 ey5
    refine gx_istore (L' := [(4, .int y5), (3, .int y4), (2, .int y1), (0, .ref (o 0)), (1, .int v1)]) C dX_countAnew_70 (by decide) rfl ?_
    exact gx_sub [3, 4, 2, 1, 0] rfl hs
set_option maxHeartbeats 4000000 in
set_option maxRecDepth 100000 in
theorem wk_X_countAnew_72 {l : Launch} {dC : Nat → ClassId} {dI : Nat → Nat → Nat} {cI cZ : ClassId} {o : Nat → Nat} {W E : Nat} {p : Program} {e : Env} {s : State} {m : MethodId} {args : Array Value} {below : List Frame} {meth : Method} {c : Code} {A : Nat → Prop} {post : GS → Prop} (C : GC p s m args c cX_countAnew 5 RX wsA (dC, dI) gx_cl [(cI, .int), (cZ, .boolean)] A) (hr : meth.sig.returnType = none) (hlocks : meth.locks = false) (S : GS) (v1 : Int32) (v2 : Int32) (v3 : Int32) (v4 : Int32) (hs : sp_X_countAnew W E post (vh_X_countAnew o (GV p l e ({ frames := 3, cells := 0, slots := 0, locals := 68 }) s m args below meth c (MQ below (va_Qv post (GB (xw cI cZ o W E) (dC, dI) gx_cl [(cI, .int), (cZ, .boolean)] A) A) args s 0 0 A) 5 (dC, dI) gx_cl A (xw cI cZ o W E))) 72 S [v1, v2, v3, v4]) : GV p l e ({ frames := 3, cells := 0, slots := 0, locals := 68 }) s m args below meth c (MQ below (va_Qv post (GB (xw cI cZ o W E) (dC, dI) gx_cl [(cI, .int), (cZ, .boolean)] A) A) args s 0 0 A) 5 (dC, dI) gx_cl A (xw cI cZ o W E) S 72 [(0, .ref (o 0)), (1, .int v1), (2, .int v2), (3, .int v3), (4, .int v4)] [] := by
  refine gx_iload C dX_countAnew_72 4 rfl ?_
  refine gx_iload_n C dX_countAnew_74 3 rfl rfl ?_
  obtain ⟨ht, hf⟩ := hs
  refine gx_icmp_ge C dX_countAnew_75 95 rfl (fun hc => ?_) (fun hc => ?_)
  · have hs := ht hc
    refine gx_iinc (v0 := 1) (f := fun v => [(1, .int v), (0, .ref (o 0)), (2, .int v2), (3, .int v3), (4, .int v4)]) C dX_countAnew_95 1 rfl (by decide) (by decide) (fun _ => rfl) (fun y1 ey1 => ?_)
    replace hs := hs y1 ey1
    refine gx_goto C dX_countAnew_98 34 rfl ?_
    exact gx_sub [1, 0] rfl hs
  · have hs := hf hc
    refine gx_aload_n C dX_countAnew_78 0 rfl rfl ?_
    refine gx_aload_n C dX_countAnew_79 0 rfl rfl ?_
    refine gx_get C xo_this hi_X 0 (by decide) fl_X_18 rfl dX_countAnew_80 ?_
    refine gx_iload C dX_countAnew_83 4 rfl ?_
    obtain ⟨hin, hs⟩ := hs
    refine gx_iald C xa_words hin dX_countAnew_85 ?_
    refine gx_callv (As := [.int (S 0 (v4).toNatClampNeg)]) (rest := []) C (mt_X_addReference l dC dI cI cZ o W E _ _ _ hs) (gx_cwV C 1 ln_X_97 im_X_addReference se_X_addReference in_CountedObjects cd_X_addReference rfl rfl (by decide +kernel) ⟨Nat.le_of_ble_eq_true rfl, Nat.le_of_ble_eq_true rfl⟩) xo_this rfl (Nat.le_of_ble_eq_true rfl) dX_countAnew_86 (fun S1 => xw_ad _ S1) rfl (fun S2 hs => ?_)
    refine gx_iinc (v0 := 1) (f := fun v => [(4, .int v), (0, .ref (o 0)), (1, .int v1), (2, .int v2), (3, .int v3)]) C dX_countAnew_89 4 rfl (by decide) (by decide) (fun _ => rfl) (fun y4 ey4 => ?_)
    replace hs := hs y4 ey4
    refine gx_goto C dX_countAnew_92 72 rfl ?_
    exact gx_sub [1, 2, 3, 4, 0] rfl hs
set_option maxHeartbeats 4000000 in
set_option maxRecDepth 100000 in
theorem mt_X_countAnew (l : Launch) (dC : Nat → ClassId) (dI : Nat → Nat → Nat) (cI cZ : ClassId) (o : Nat → Nat) (W E : Nat) (S : GS) (post : GS → Prop) (h : wp_X_countAnew W E [] S post) : MetV l yX_countAnew (Cond.code yX_countAnew cX_countAnew 5 none :: wsA) ({ frames := 3, cells := 0, slots := 0, locals := 68 }) (dC, dI) gx_cl [(cI, .int), (cZ, .boolean)] (xw cI cZ o W E) [.ref (o 0)] S post := by
  refine gx_metV (by decide) wsA_good (Nat.le_of_ble_eq_true rfl) ?_
  intro p e s m args below meth c A C hr hlocks
  refine h (vh_X_countAnew o (GV p l e ({ frames := 3, cells := 0, slots := 0, locals := 68 }) s m args below meth c (MQ below (va_Qv post (GB (xw cI cZ o W E) (dC, dI) gx_cl [(cI, .int), (cZ, .boolean)] A) A) args s 0 0 A) 5 (dC, dI) gx_cl A (xw cI cZ o W E))) (fun h S xs hs => ?_)
  unfold sp_X_countAnew at hs
  split at hs
  · exact wk_X_countAnew_0 C hr hlocks _ hs
  · exact wk_X_countAnew_10 C hr hlocks _ _ hs
  · exact wk_X_countAnew_34 C hr hlocks _ _ hs
  · exact wk_X_countAnew_72 C hr hlocks _ _ _ _ _ hs
  · exact hs.elim
/-- CountedObjects.takeUnreached(I)I: a step from head to head -/
def sp_X_takeUnreached (W E : Nat) (post : Int32 → GS → Prop) (V : Nat → GS → List Int32 → Prop) (h : Nat) (S : GS) (xs : List Int32) : Prop := match h, xs with
  | 0, [v1] => wp_X_findReached W E [v1] S (fun S1 => ∀ y3 : Int32, y3 = 0 → ∀ y4 : Int32, y4 = 1 → V 9 S1 [v1, y3, y4])
  | 9, [v1, v2, v3] => (((nI (E + 1)) ≤ v3 → wp_X_countAnew W E [] S (fun S1 => post v2 S1)) ∧ (¬ (nI (E + 1)) ≤ v3 → wp_X_isUsed W E [v3] S (fun r4 S3 => ((r4 = 0 → (∀ y5 : Int32, y5 = v3 + 1 → V 9 S3 [v1, v2, y5])) ∧ (¬ r4 = 0 → (vp_in v3 (E + 1) ∧ ((¬ (S3 4 (v3).toNatClampNeg) = 0 → (∀ y6 : Int32, y6 = v3 + 1 → V 9 S3 [v1, v2, y6])) ∧ ((S3 4 (v3).toNatClampNeg) = 0 → wp_X_freeEntry W E [v3] S3 (fun S7 => (∀ y9 : Int32, y9 = v2 + 1 → (∀ y10 : Int32, y10 = v3 + 1 → V 9 S7 [v1, y9, y10])))))))))))
  | _, _ => False
def wp_X_takeUnreached (W E : Nat) (xs : List Int32) (S : GS) (post : Int32 → GS → Prop) : Prop := ∀ V : Nat → GS → List Int32 → Prop, (∀ h S xs, sp_X_takeUnreached W E post V h S xs → V h S xs) → V 0 S xs
def vh_X_takeUnreached (o : Nat → Nat) (G : GS → Nat → List (Nat × Value) → List Value → Prop) (h : Nat) (S : GS) (xs : List Int32) : Prop := match h, xs with
  | 0, [v1] => G S 0 [(0, .ref (o 0)), (1, .int v1)] []
  | 9, [v1, v2, v3] => G S 9 [(0, .ref (o 0)), (1, .int v1), (2, .int v2), (3, .int v3)] []
  | _, _ => True
set_option maxHeartbeats 4000000 in
set_option maxRecDepth 100000 in
theorem wk_X_takeUnreached_0 {l : Launch} {dC : Nat → ClassId} {dI : Nat → Nat → Nat} {cI cZ : ClassId} {o : Nat → Nat} {W E : Nat} {p : Program} {e : Env} {s : State} {m : MethodId} {args : Array Value} {below : List Frame} {meth : Method} {c : Code} {A : Nat → Prop} {post : Int32 → GS → Prop} (C : GC p s m args c cX_takeUnreached 4 RX wsA (dC, dI) gx_cl [(cI, .int), (cZ, .boolean)] A) (hr : meth.sig.returnType = (some .int)) (hlocks : meth.locks = false) (S : GS) (v1 : Int32) (hs : sp_X_takeUnreached W E post (vh_X_takeUnreached o (GV p l e ({ frames := 4, cells := 0, slots := 0, locals := 92 }) s m args below meth c (MQ below (va_Qi post (GB (xw cI cZ o W E) (dC, dI) gx_cl [(cI, .int), (cZ, .boolean)] A) A) args s 0 0 A) 4 (dC, dI) gx_cl A (xw cI cZ o W E))) 0 S [v1]) : GV p l e ({ frames := 4, cells := 0, slots := 0, locals := 92 }) s m args below meth c (MQ below (va_Qi post (GB (xw cI cZ o W E) (dC, dI) gx_cl [(cI, .int), (cZ, .boolean)] A) A) args s 0 0 A) 4 (dC, dI) gx_cl A (xw cI cZ o W E) S 0 [(0, .ref (o 0)), (1, .int v1)] [] := by
  refine gx_aload_n C dX_takeUnreached_0 0 rfl rfl ?_
  refine gx_iload_n C dX_takeUnreached_1 1 rfl rfl ?_
  refine gx_callv (As := [.int v1]) (rest := []) C (mt_X_findReached l dC dI cI cZ o W E _ _ _ hs) (gx_cwV C 1 ln_X_153 im_X_findReached se_X_findReached in_CountedObjects cd_X_findReached rfl rfl (by decide +kernel) ⟨Nat.le_of_ble_eq_true rfl, Nat.le_of_ble_eq_true rfl⟩) xo_this rfl (Nat.le_of_ble_eq_true rfl) dX_takeUnreached_2 (fun S1 => xw_ad _ S1) rfl (fun S1 hs => ?_)
  refine gx_iconst (v := 0) C dX_takeUnreached_5 (by decide) ?_
  refine gx_top (fun y3 ey3 => ?_)
  replace hs := hs y3 ey3
  refine gx_istore_n (L' := [(2, .int y3), (0, .ref (o 0)), (1, .int v1)]) C dX_takeUnreached_6 rfl (by decide) rfl ?_
  refine gx_iconst (v := 1) C dX_takeUnreached_7 (by decide) ?_
  refine gx_top (fun y4 ey4 => ?_)
  replace hs := hs y4 ey4
  refine gx_istore_n (L' := [(3, .int y4), (2, .int y3), (0, .ref (o 0)), (1, .int v1)]) C dX_takeUnreached_8 rfl (by decide) rfl ?_
  exact gx_sub [2, 3, 1, 0] rfl hs
set_option maxHeartbeats 4000000 in
set_option maxRecDepth 100000 in
theorem wk_X_takeUnreached_9 {l : Launch} {dC : Nat → ClassId} {dI : Nat → Nat → Nat} {cI cZ : ClassId} {o : Nat → Nat} {W E : Nat} {p : Program} {e : Env} {s : State} {m : MethodId} {args : Array Value} {below : List Frame} {meth : Method} {c : Code} {A : Nat → Prop} {post : Int32 → GS → Prop} (C : GC p s m args c cX_takeUnreached 4 RX wsA (dC, dI) gx_cl [(cI, .int), (cZ, .boolean)] A) (hr : meth.sig.returnType = (some .int)) (hlocks : meth.locks = false) (S : GS) (v1 : Int32) (v2 : Int32) (v3 : Int32) (hs : sp_X_takeUnreached W E post (vh_X_takeUnreached o (GV p l e ({ frames := 4, cells := 0, slots := 0, locals := 92 }) s m args below meth c (MQ below (va_Qi post (GB (xw cI cZ o W E) (dC, dI) gx_cl [(cI, .int), (cZ, .boolean)] A) A) args s 0 0 A) 4 (dC, dI) gx_cl A (xw cI cZ o W E))) 9 S [v1, v2, v3]) : GV p l e ({ frames := 4, cells := 0, slots := 0, locals := 92 }) s m args below meth c (MQ below (va_Qi post (GB (xw cI cZ o W E) (dC, dI) gx_cl [(cI, .int), (cZ, .boolean)] A) A) args s 0 0 A) 4 (dC, dI) gx_cl A (xw cI cZ o W E) S 9 [(0, .ref (o 0)), (1, .int v1), (2, .int v2), (3, .int v3)] [] := by
  refine gx_iload_n C dX_takeUnreached_9 3 rfl rfl ?_
  refine gx_aload_n C dX_takeUnreached_10 0 rfl rfl ?_
  refine gx_get C xo_this hi_X 1 (by decide) fl_X_22 rfl dX_takeUnreached_11 ?_
  refine gx_alen C xa_addresses dX_takeUnreached_14 ?_
  obtain ⟨ht, hf⟩ := hs
  refine gx_icmp_ge C dX_takeUnreached_15 49 rfl (fun hc => ?_) (fun hc => ?_)
  · have hs := ht hc
    refine gx_aload_n C dX_takeUnreached_49 0 rfl rfl ?_
    refine gx_callv (As := []) (rest := []) C (mt_X_countAnew l dC dI cI cZ o W E _ _ hs) (gx_cwV C 0 ln_X_156 im_X_countAnew se_X_countAnew in_CountedObjects cd_X_countAnew rfl rfl (by decide +kernel) ⟨Nat.le_of_ble_eq_true rfl, Nat.le_of_ble_eq_true rfl⟩) xo_this rfl (Nat.le_of_ble_eq_true rfl) dX_takeUnreached_50 (fun S1 => xw_ad _ S1) rfl (fun S1 hs => ?_)
    refine gx_iload_n C dX_takeUnreached_53 2 rfl rfl ?_
    exact gx_iret C hr hlocks dX_takeUnreached_54 hs
  · have hs := hf hc
    refine gx_aload_n C dX_takeUnreached_18 0 rfl rfl ?_
    refine gx_iload_n C dX_takeUnreached_19 3 rfl rfl ?_
    refine gx_calli (As := [.int v3]) (rest := []) C (mt_X_isUsed l dC dI cI cZ o W E _ _ _ hs) (gx_cwV C 1 ln_X_120 im_X_isUsed se_X_isUsed in_CountedObjects cd_X_isUsed rfl rfl (by decide +kernel) ⟨Nat.le_of_ble_eq_true rfl, Nat.le_of_ble_eq_true rfl⟩) xo_this rfl (Nat.le_of_ble_eq_true rfl) dX_takeUnreached_20 (fun S1 => xw_ad _ S1) rfl (fun r4 S3 hs => ?_)
    obtain ⟨ht, hf⟩ := hs
    refine gx_if_eq C dX_takeUnreached_23 43 rfl (fun hc => ?_) (fun hc => ?_)
    · have hs := ht hc
      refine gx_iinc (v0 := 1) (f := fun v => [(3, .int v), (0, .ref (o 0)), (1, .int v1), (2, .int v2)]) C dX_takeUnreached_43 3 rfl (by decide) (by decide) (fun _ => rfl) (fun y5 ey5 => ?_)
      replace hs := hs y5 ey5
      refine gx_goto C dX_takeUnreached_46 9 rfl ?_
      exact gx_sub [1, 2, 3, 0] rfl hs
    · have hs := hf hc
      refine gx_aload_n C dX_takeUnreached_26 0 rfl rfl ?_
      refine gx_get C xo_this hi_X 5 (by decide) fl_X_40 rfl dX_takeUnreached_27 ?_
      refine gx_iload_n C dX_takeUnreached_30 3 rfl rfl ?_
      obtain ⟨hin, hs⟩ := hs
      refine gx_zald C xa_isReached hin dX_takeUnreached_31 ?_
      obtain ⟨ht, hf⟩ := hs
      refine gx_if_ne C dX_takeUnreached_32 43 rfl (fun hc => ?_) (fun hc => ?_)
      · have hs := ht hc
        refine gx_iinc (v0 := 1) (f := fun v => [(3, .int v), (0, .ref (o 0)), (1, .int v1), (2, .int v2)]) C dX_takeUnreached_43 3 rfl (by decide) (by decide) (fun _ => rfl) (fun y6 ey6 => ?_)
        replace hs := hs y6 ey6
        refine gx_goto C dX_takeUnreached_46 9 rfl ?_
        exact gx_sub [1, 2, 3, 0] rfl hs
      · have hs := hf hc
        refine gx_aload_n C dX_takeUnreached_35 0 rfl rfl ?_
        refine gx_iload_n C dX_takeUnreached_36 3 rfl rfl ?_
        refine gx_callv (As := [.int v3]) (rest := []) C (mt_X_freeEntry l dC dI cI cZ o W E _ _ _ hs) (gx_cwV C 1 ln_X_129 im_X_freeEntry se_X_freeEntry in_CountedObjects cd_X_freeEntry rfl rfl (by decide +kernel) ⟨Nat.le_of_ble_eq_true rfl, Nat.le_of_ble_eq_true rfl⟩) xo_this rfl (Nat.le_of_ble_eq_true rfl) dX_takeUnreached_37 (fun S1 => xw_ad _ S1) rfl (fun S7 hs => ?_)
        refine gx_iinc (v0 := 1) (f := fun v => [(2, .int v), (0, .ref (o 0)), (1, .int v1), (3, .int v3)]) C dX_takeUnreached_40 2 rfl (by decide) (by decide) (fun _ => rfl) (fun y9 ey9 => ?_)
        replace hs := hs y9 ey9
        refine gx_iinc (v0 := 1) (f := fun v => [(3, .int v), (2, .int y9), (0, .ref (o 0)), (1, .int v1)]) C dX_takeUnreached_43 3 rfl (by decide) (by decide) (fun _ => rfl) (fun y10 ey10 => ?_)
        replace hs := hs y10 ey10
        refine gx_goto C dX_takeUnreached_46 9 rfl ?_
        exact gx_sub [2, 3, 1, 0] rfl hs
set_option maxHeartbeats 4000000 in
set_option maxRecDepth 100000 in
theorem mt_X_takeUnreached (l : Launch) (dC : Nat → ClassId) (dI : Nat → Nat → Nat) (cI cZ : ClassId) (o : Nat → Nat) (W E : Nat) (v1 : Int32) (S : GS) (post : Int32 → GS → Prop) (h : wp_X_takeUnreached W E [v1] S post) : MetI l yX_takeUnreached (Cond.code yX_takeUnreached cX_takeUnreached 4 (some .int) :: wsA) ({ frames := 4, cells := 0, slots := 0, locals := 92 }) (dC, dI) gx_cl [(cI, .int), (cZ, .boolean)] (xw cI cZ o W E) [.ref (o 0), .int v1] S post := by
  refine gx_metI (by decide) wsA_good (Nat.le_of_ble_eq_true rfl) ?_
  intro p e s m args below meth c A C hr hlocks
  refine h (vh_X_takeUnreached o (GV p l e ({ frames := 4, cells := 0, slots := 0, locals := 92 }) s m args below meth c (MQ below (va_Qi post (GB (xw cI cZ o W E) (dC, dI) gx_cl [(cI, .int), (cZ, .boolean)] A) A) args s 0 0 A) 4 (dC, dI) gx_cl A (xw cI cZ o W E))) (fun h S xs hs => ?_)
  unfold sp_X_takeUnreached at hs
  split at hs
  · exact wk_X_takeUnreached_0 C hr hlocks _ _ hs
  · exact wk_X_takeUnreached_9 C hr hlocks _ _ _ _ hs
  · exact hs.elim
/-- CountedObjects.findRoom(II)I: a step from head to head -/
def sp_X_findRoom (W E : Nat) (post : Int32 → GS → Prop) (V : Nat → GS → List Int32 → Prop) (h : Nat) (S : GS) (xs : List Int32) : Prop := match h, xs with
  | 0, [v1, v2] => ∀ y1 : Int32, y1 = 0 → wp_X_leastFreeEntry W E [] S (fun r3 S2 => ((¬ r3 = 0 → wp_X_place W E [v1] S2 (fun r5 S4 => ((¬ r5 = (-1) → post r5 S4) ∧ (r5 = (-1) → ((¬ y1 = 0 → post r5 S4) ∧ (y1 = 0 → wp_X_takeUnreached W E [v2] S4 (fun r7 S6 => wp_X_place W E [v1] S6 (fun r9 S8 => post r9 S8)))))))) ∧ (r3 = 0 → wp_X_takeUnreached W E [v2] S2 (fun r11 S10 => ∀ y12 : Int32, y12 = 1 → wp_X_leastFreeEntry W E [] S10 (fun r14 S13 => ((¬ r14 = 0 → wp_X_place W E [v1] S13 (fun r16 S15 => ((¬ r16 = (-1) → post r16 S15) ∧ (r16 = (-1) → ((¬ y12 = 0 → post r16 S15) ∧ (y12 = 0 → wp_X_takeUnreached W E [v2] S15 (fun r18 S17 => wp_X_place W E [v1] S17 (fun r20 S19 => post r20 S19)))))))) ∧ (r14 = 0 → post (-1) S13)))))))
  | _, _ => False
def wp_X_findRoom (W E : Nat) (xs : List Int32) (S : GS) (post : Int32 → GS → Prop) : Prop := ∀ V : Nat → GS → List Int32 → Prop, (∀ h S xs, sp_X_findRoom W E post V h S xs → V h S xs) → V 0 S xs
def vh_X_findRoom (o : Nat → Nat) (G : GS → Nat → List (Nat × Value) → List Value → Prop) (h : Nat) (S : GS) (xs : List Int32) : Prop := match h, xs with
  | 0, [v1, v2] => G S 0 [(0, .ref (o 0)), (1, .int v1), (2, .int v2)] []
  | _, _ => True
set_option maxHeartbeats 4000000 in
set_option maxRecDepth 100000 in
theorem wk_X_findRoom_0 {l : Launch} {dC : Nat → ClassId} {dI : Nat → Nat → Nat} {cI cZ : ClassId} {o : Nat → Nat} {W E : Nat} {p : Program} {e : Env} {s : State} {m : MethodId} {args : Array Value} {below : List Frame} {meth : Method} {c : Code} {A : Nat → Prop} {post : Int32 → GS → Prop} (C : GC p s m args c cX_findRoom 5 RX wsA (dC, dI) gx_cl [(cI, .int), (cZ, .boolean)] A) (hr : meth.sig.returnType = (some .int)) (hlocks : meth.locks = false) (S : GS) (v1 : Int32) (v2 : Int32) (hs : sp_X_findRoom W E post (vh_X_findRoom o (GV p l e ({ frames := 5, cells := 0, slots := 0, locals := 135 }) s m args below meth c (MQ below (va_Qi post (GB (xw cI cZ o W E) (dC, dI) gx_cl [(cI, .int), (cZ, .boolean)] A) A) args s 0 0 A) 5 (dC, dI) gx_cl A (xw cI cZ o W E))) 0 S [v1, v2]) : GV p l e ({ frames := 5, cells := 0, slots := 0, locals := 135 }) s m args below meth c (MQ below (va_Qi post (GB (xw cI cZ o W E) (dC, dI) gx_cl [(cI, .int), (cZ, .boolean)] A) A) args s 0 0 A) 5 (dC, dI) gx_cl A (xw cI cZ o W E) S 0 [(0, .ref (o 0)), (1, .int v1), (2, .int v2)] [] := by
  refine gx_iconst (v := 0) C dX_findRoom_0 (by decide) ?_
  refine gx_top (fun y1 ey1 => ?_)
  replace hs := hs y1 ey1
  refine gx_istore_n (L' := [(3, .int y1), (0, .ref (o 0)), (1, .int v1), (2, .int v2)]) C dX_findRoom_1 rfl (by decide) rfl ?_
  refine gx_aload_n C dX_findRoom_2 1 rfl rfl ?_
  refine gx_calli (As := []) (rest := []) C (mt_X_leastFreeEntry l dC dI cI cZ o W E _ _ hs) (gx_cwV C 0 ln_X_73 im_X_leastFreeEntry se_X_leastFreeEntry in_CountedObjects cd_X_leastFreeEntry rfl rfl (by decide +kernel) ⟨Nat.le_of_ble_eq_true rfl, Nat.le_of_ble_eq_true rfl⟩) xo_this rfl (Nat.le_of_ble_eq_true rfl) dX_findRoom_3 (fun S1 => xw_ad _ S1) rfl (fun r3 S2 hs => ?_)
  obtain ⟨ht, hf⟩ := hs
  refine gx_if_ne C dX_findRoom_6 26 rfl (fun hc => ?_) (fun hc => ?_)
  · have hs := ht hc
    refine gx_aload_n C dX_findRoom_26 1 rfl rfl ?_
    refine gx_iload_n C dX_findRoom_27 2 rfl rfl ?_
    refine gx_calli (As := [.int v1]) (rest := []) C (mt_X_place l dC dI cI cZ o W E _ _ _ hs) (gx_cwV C 1 ln_X_135 im_X_place se_X_place in_CountedObjects cd_X_place rfl rfl (by decide +kernel) ⟨Nat.le_of_ble_eq_true rfl, Nat.le_of_ble_eq_true rfl⟩) xo_this rfl (Nat.le_of_ble_eq_true rfl) dX_findRoom_28 (fun S1 => xw_ad _ S1) rfl (fun r5 S4 hs => ?_)
    refine gx_istore (L' := [(4, .int r5), (3, .int y1), (0, .ref (o 0)), (1, .int v1), (2, .int v2)]) C dX_findRoom_31 (by decide) rfl ?_
    refine gx_iload C dX_findRoom_33 0 rfl ?_
    refine gx_iconst (v := (-1)) C dX_findRoom_35 (by decide) ?_
    obtain ⟨ht, hf⟩ := hs
    refine gx_icmp_ne C dX_findRoom_36 56 rfl (fun hc => ?_) (fun hc => ?_)
    · have hs := ht hc
      refine gx_iload C dX_findRoom_56 0 rfl ?_
      exact gx_iret C hr hlocks dX_findRoom_58 hs
    · have hs := hf hc
      refine gx_iload_n C dX_findRoom_39 1 rfl rfl ?_
      obtain ⟨ht, hf⟩ := hs
      refine gx_if_ne C dX_findRoom_40 56 rfl (fun hc => ?_) (fun hc => ?_)
      · have hs := ht hc
        refine gx_iload C dX_findRoom_56 0 rfl ?_
        exact gx_iret C hr hlocks dX_findRoom_58 hs
      · have hs := hf hc
        refine gx_aload_n C dX_findRoom_43 2 rfl rfl ?_
        refine gx_iload_n C dX_findRoom_44 4 rfl rfl ?_
        refine gx_calli (As := [.int v2]) (rest := []) C (mt_X_takeUnreached l dC dI cI cZ o W E _ _ _ hs) (gx_cwV C 1 ln_X_104 im_X_takeUnreached se_X_takeUnreached in_CountedObjects cd_X_takeUnreached rfl rfl (by decide +kernel) ⟨Nat.le_of_ble_eq_true rfl, Nat.le_of_ble_eq_true rfl⟩) xo_this rfl (Nat.le_of_ble_eq_true rfl) dX_findRoom_45 (fun S1 => xw_ad _ S1) rfl (fun r7 S6 hs => ?_)
        refine gx_pop C dX_findRoom_48 rfl ?_
        refine gx_aload_n C dX_findRoom_49 2 rfl rfl ?_
        refine gx_iload_n C dX_findRoom_50 3 rfl rfl ?_
        refine gx_calli (As := [.int v1]) (rest := []) C (mt_X_place l dC dI cI cZ o W E _ _ _ hs) (gx_cwV C 1 ln_X_135 im_X_place se_X_place in_CountedObjects cd_X_place rfl rfl (by decide +kernel) ⟨Nat.le_of_ble_eq_true rfl, Nat.le_of_ble_eq_true rfl⟩) xo_this rfl (Nat.le_of_ble_eq_true rfl) dX_findRoom_51 (fun S1 => xw_ad _ S1) rfl (fun r9 S8 hs => ?_)
        refine gx_istore (L' := [(4, .int r9), (3, .int y1), (0, .ref (o 0)), (1, .int v1), (2, .int v2)]) C dX_findRoom_54 (by decide) rfl ?_
        refine gx_iload C dX_findRoom_56 0 rfl ?_
        exact gx_iret C hr hlocks dX_findRoom_58 hs
  · have hs := hf hc
    refine gx_aload_n C dX_findRoom_9 1 rfl rfl ?_
    refine gx_iload_n C dX_findRoom_10 3 rfl rfl ?_
    refine gx_calli (As := [.int v2]) (rest := []) C (mt_X_takeUnreached l dC dI cI cZ o W E _ _ _ hs) (gx_cwV C 1 ln_X_104 im_X_takeUnreached se_X_takeUnreached in_CountedObjects cd_X_takeUnreached rfl rfl (by decide +kernel) ⟨Nat.le_of_ble_eq_true rfl, Nat.le_of_ble_eq_true rfl⟩) xo_this rfl (Nat.le_of_ble_eq_true rfl) dX_findRoom_11 (fun S1 => xw_ad _ S1) rfl (fun r11 S10 hs => ?_)
    refine gx_pop C dX_findRoom_14 rfl ?_
    refine gx_iconst (v := 1) C dX_findRoom_15 (by decide) ?_
    refine gx_top (fun y12 ey12 => ?_)
    replace hs := hs y12 ey12
    refine gx_istore_n (L' := [(3, .int y12), (0, .ref (o 0)), (1, .int v1), (2, .int v2)]) C dX_findRoom_16 rfl (by decide) rfl ?_
    refine gx_aload_n C dX_findRoom_17 1 rfl rfl ?_
    refine gx_calli (As := []) (rest := []) C (mt_X_leastFreeEntry l dC dI cI cZ o W E _ _ hs) (gx_cwV C 0 ln_X_73 im_X_leastFreeEntry se_X_leastFreeEntry in_CountedObjects cd_X_leastFreeEntry rfl rfl (by decide +kernel) ⟨Nat.le_of_ble_eq_true rfl, Nat.le_of_ble_eq_true rfl⟩) xo_this rfl (Nat.le_of_ble_eq_true rfl) dX_findRoom_18 (fun S1 => xw_ad _ S1) rfl (fun r14 S13 hs => ?_)
    obtain ⟨ht, hf⟩ := hs
    refine gx_if_ne C dX_findRoom_21 26 rfl (fun hc => ?_) (fun hc => ?_)
    · have hs := ht hc
      refine gx_aload_n C dX_findRoom_26 1 rfl rfl ?_
      refine gx_iload_n C dX_findRoom_27 2 rfl rfl ?_
      refine gx_calli (As := [.int v1]) (rest := []) C (mt_X_place l dC dI cI cZ o W E _ _ _ hs) (gx_cwV C 1 ln_X_135 im_X_place se_X_place in_CountedObjects cd_X_place rfl rfl (by decide +kernel) ⟨Nat.le_of_ble_eq_true rfl, Nat.le_of_ble_eq_true rfl⟩) xo_this rfl (Nat.le_of_ble_eq_true rfl) dX_findRoom_28 (fun S1 => xw_ad _ S1) rfl (fun r16 S15 hs => ?_)
      refine gx_istore (L' := [(4, .int r16), (3, .int y12), (0, .ref (o 0)), (1, .int v1), (2, .int v2)]) C dX_findRoom_31 (by decide) rfl ?_
      refine gx_iload C dX_findRoom_33 0 rfl ?_
      refine gx_iconst (v := (-1)) C dX_findRoom_35 (by decide) ?_
      obtain ⟨ht, hf⟩ := hs
      refine gx_icmp_ne C dX_findRoom_36 56 rfl (fun hc => ?_) (fun hc => ?_)
      · have hs := ht hc
        refine gx_iload C dX_findRoom_56 0 rfl ?_
        exact gx_iret C hr hlocks dX_findRoom_58 hs
      · have hs := hf hc
        refine gx_iload_n C dX_findRoom_39 1 rfl rfl ?_
        obtain ⟨ht, hf⟩ := hs
        refine gx_if_ne C dX_findRoom_40 56 rfl (fun hc => ?_) (fun hc => ?_)
        · have hs := ht hc
          refine gx_iload C dX_findRoom_56 0 rfl ?_
          exact gx_iret C hr hlocks dX_findRoom_58 hs
        · have hs := hf hc
          refine gx_aload_n C dX_findRoom_43 2 rfl rfl ?_
          refine gx_iload_n C dX_findRoom_44 4 rfl rfl ?_
          refine gx_calli (As := [.int v2]) (rest := []) C (mt_X_takeUnreached l dC dI cI cZ o W E _ _ _ hs) (gx_cwV C 1 ln_X_104 im_X_takeUnreached se_X_takeUnreached in_CountedObjects cd_X_takeUnreached rfl rfl (by decide +kernel) ⟨Nat.le_of_ble_eq_true rfl, Nat.le_of_ble_eq_true rfl⟩) xo_this rfl (Nat.le_of_ble_eq_true rfl) dX_findRoom_45 (fun S1 => xw_ad _ S1) rfl (fun r18 S17 hs => ?_)
          refine gx_pop C dX_findRoom_48 rfl ?_
          refine gx_aload_n C dX_findRoom_49 2 rfl rfl ?_
          refine gx_iload_n C dX_findRoom_50 3 rfl rfl ?_
          refine gx_calli (As := [.int v1]) (rest := []) C (mt_X_place l dC dI cI cZ o W E _ _ _ hs) (gx_cwV C 1 ln_X_135 im_X_place se_X_place in_CountedObjects cd_X_place rfl rfl (by decide +kernel) ⟨Nat.le_of_ble_eq_true rfl, Nat.le_of_ble_eq_true rfl⟩) xo_this rfl (Nat.le_of_ble_eq_true rfl) dX_findRoom_51 (fun S1 => xw_ad _ S1) rfl (fun r20 S19 hs => ?_)
          refine gx_istore (L' := [(4, .int r20), (3, .int y12), (0, .ref (o 0)), (1, .int v1), (2, .int v2)]) C dX_findRoom_54 (by decide) rfl ?_
          refine gx_iload C dX_findRoom_56 0 rfl ?_
          exact gx_iret C hr hlocks dX_findRoom_58 hs
    · have hs := hf hc
      refine gx_iconst (v := (-1)) C dX_findRoom_24 (by decide) ?_
      exact gx_iret C hr hlocks dX_findRoom_25 hs
set_option maxHeartbeats 4000000 in
set_option maxRecDepth 100000 in
theorem mt_X_findRoom (l : Launch) (dC : Nat → ClassId) (dI : Nat → Nat → Nat) (cI cZ : ClassId) (o : Nat → Nat) (W E : Nat) (v1 : Int32) (v2 : Int32) (S : GS) (post : Int32 → GS → Prop) (h : wp_X_findRoom W E [v1, v2] S post) : MetI l yX_findRoom (Cond.code yX_findRoom cX_findRoom 5 (some .int) :: wsA) ({ frames := 5, cells := 0, slots := 0, locals := 135 }) (dC, dI) gx_cl [(cI, .int), (cZ, .boolean)] (xw cI cZ o W E) [.ref (o 0), .int v1, .int v2] S post := by
  refine gx_metI (by decide) wsA_good (Nat.le_of_ble_eq_true rfl) ?_
  intro p e s m args below meth c A C hr hlocks
  refine h (vh_X_findRoom o (GV p l e ({ frames := 5, cells := 0, slots := 0, locals := 135 }) s m args below meth c (MQ below (va_Qi post (GB (xw cI cZ o W E) (dC, dI) gx_cl [(cI, .int), (cZ, .boolean)] A) A) args s 0 0 A) 5 (dC, dI) gx_cl A (xw cI cZ o W E))) (fun h S xs hs => ?_)
  unfold sp_X_findRoom at hs
  split at hs
  · exact wk_X_findRoom_0 C hr hlocks _ _ _ hs
  · exact hs.elim
/-- CountedObjects.collect()I: a step from head to head -/
def sp_X_collect (W E : Nat) (post : Int32 → GS → Prop) (V : Nat → GS → List Int32 → Prop) (h : Nat) (S : GS) (xs : List Int32) : Prop := match h, xs with
  | 0, [] => wp_X_takeUnreached W E [0] S (fun r2 S1 => post r2 S1)
  | _, _ => False
def wp_X_collect (W E : Nat) (xs : List Int32) (S : GS) (post : Int32 → GS → Prop) : Prop := ∀ V : Nat → GS → List Int32 → Prop, (∀ h S xs, sp_X_collect W E post V h S xs → V h S xs) → V 0 S xs
def vh_X_collect (o : Nat → Nat) (G : GS → Nat → List (Nat × Value) → List Value → Prop) (h : Nat) (S : GS) (xs : List Int32) : Prop := match h, xs with
  | 0, [] => G S 0 [(0, .ref (o 0))] []
  | _, _ => True
set_option maxHeartbeats 4000000 in
set_option maxRecDepth 100000 in
theorem wk_X_collect_0 {l : Launch} {dC : Nat → ClassId} {dI : Nat → Nat → Nat} {cI cZ : ClassId} {o : Nat → Nat} {W E : Nat} {p : Program} {e : Env} {s : State} {m : MethodId} {args : Array Value} {below : List Frame} {meth : Method} {c : Code} {A : Nat → Prop} {post : Int32 → GS → Prop} (C : GC p s m args c cX_collect 1 RX wsA (dC, dI) gx_cl [(cI, .int), (cZ, .boolean)] A) (hr : meth.sig.returnType = (some .int)) (hlocks : meth.locks = false) (S : GS) (hs : sp_X_collect W E post (vh_X_collect o (GV p l e ({ frames := 5, cells := 0, slots := 0, locals := 115 }) s m args below meth c (MQ below (va_Qi post (GB (xw cI cZ o W E) (dC, dI) gx_cl [(cI, .int), (cZ, .boolean)] A) A) args s 0 0 A) 1 (dC, dI) gx_cl A (xw cI cZ o W E))) 0 S []) : GV p l e ({ frames := 5, cells := 0, slots := 0, locals := 115 }) s m args below meth c (MQ below (va_Qi post (GB (xw cI cZ o W E) (dC, dI) gx_cl [(cI, .int), (cZ, .boolean)] A) A) args s 0 0 A) 1 (dC, dI) gx_cl A (xw cI cZ o W E) S 0 [(0, .ref (o 0))] [] := by
  refine gx_aload_n C dX_collect_0 0 rfl rfl ?_
  refine gx_iconst (v := 0) C dX_collect_1 (by decide) ?_
  refine gx_calli (As := [.int 0]) (rest := []) C (mt_X_takeUnreached l dC dI cI cZ o W E _ _ _ hs) (gx_cwV C 1 ln_X_104 im_X_takeUnreached se_X_takeUnreached in_CountedObjects cd_X_takeUnreached rfl rfl (by decide +kernel) ⟨Nat.le_of_ble_eq_true rfl, Nat.le_of_ble_eq_true rfl⟩) xo_this rfl (Nat.le_of_ble_eq_true rfl) dX_collect_2 (fun S1 => xw_ad _ S1) rfl (fun r2 S1 hs => ?_)
  exact gx_iret C hr hlocks dX_collect_5 hs
set_option maxHeartbeats 4000000 in
set_option maxRecDepth 100000 in
theorem mt_X_collect (l : Launch) (dC : Nat → ClassId) (dI : Nat → Nat → Nat) (cI cZ : ClassId) (o : Nat → Nat) (W E : Nat) (S : GS) (post : Int32 → GS → Prop) (h : wp_X_collect W E [] S post) : MetI l yX_collect (Cond.code yX_collect cX_collect 1 (some .int) :: wsA) ({ frames := 5, cells := 0, slots := 0, locals := 115 }) (dC, dI) gx_cl [(cI, .int), (cZ, .boolean)] (xw cI cZ o W E) [.ref (o 0)] S post := by
  refine gx_metI (by decide) wsA_good (Nat.le_of_ble_eq_true rfl) ?_
  intro p e s m args below meth c A C hr hlocks
  refine h (vh_X_collect o (GV p l e ({ frames := 5, cells := 0, slots := 0, locals := 115 }) s m args below meth c (MQ below (va_Qi post (GB (xw cI cZ o W E) (dC, dI) gx_cl [(cI, .int), (cZ, .boolean)] A) A) args s 0 0 A) 1 (dC, dI) gx_cl A (xw cI cZ o W E))) (fun h S xs hs => ?_)
  unfold sp_X_collect at hs
  split at hs
  · exact wk_X_collect_0 C hr hlocks _ hs
  · exact hs.elim
/-- CountedObjects.dropReference(II)V: a step from head to head -/
def sp_X_dropReference (W E : Nat) (RC : List Int32 → GS → (GS → Prop) → Prop) (post : GS → Prop) (V : Nat → GS → List Int32 → Prop) (h : Nat) (S : GS) (xs : List Int32) : Prop := match h, xs with
  | 0, [v1, v2] => wp_X_isObject W E [v1] S (fun r2 S1 => ((r2 = 0 → post S1) ∧ (¬ r2 = 0 → (vp_in (v1 / 2) (E + 1) ∧ ((¬ (S1 2 (v1 / 2).toNatClampNeg) = 7 → (vp_in (v1 / 2) (E + 1) ∧ (vp_in (v1 / 2) (E + 1) ∧ ∀ S3 : GS, S3 = gx_set 2 (v1 / 2).toNatClampNeg ((S1 2 (v1 / 2).toNatClampNeg) - 1) S1 → (vp_in (v1 / 2) (E + 1) ∧ ((¬ (S3 2 (v1 / 2).toNatClampNeg) = 0 → post S3) ∧ ((S3 2 (v1 / 2).toNatClampNeg) = 0 → RC [v1 / 2, v2] S3 (fun S4 => post S4))))))) ∧ ((S1 2 (v1 / 2).toNatClampNeg) = 7 → post S1))))))
  | _, _ => False
def vh_X_dropReference (o : Nat → Nat) (G : GS → Nat → List (Nat × Value) → List Value → Prop) (h : Nat) (S : GS) (xs : List Int32) : Prop := match h, xs with
  | 0, [v1, v2] => G S 0 [(0, .ref (o 0)), (1, .int v1), (2, .int v2)] []
  | _, _ => True
set_option maxHeartbeats 4000000 in
set_option maxRecDepth 100000 in
theorem wk_X_dropReference_0 {l : Launch} {dC : Nat → ClassId} {dI : Nat → Nat → Nat} {cI cZ : ClassId} {o : Nat → Nat} {W E : Nat} {p : Program} {e : Env} {s : State} {m : MethodId} {args : Array Value} {below : List Frame} {meth : Method} {c : Code} {A : Nat → Prop} {post : GS → Prop} {d : Nat} {RC : List Int32 → GS → (GS → Prop) → Prop} (hRC : ∀ (a b : Int32) (S : GS) (post : GS → Prop), RC [a, b] S post → MetV l yX_letGo (Cond.code yX_letGo cX_letGo 5 none :: wsA) (rmdl d) (dC, dI) gx_cl [(cI, .int), (cZ, .boolean)] (xw cI cZ o W E) [.ref (o 0), .int a, .int b] S post) (C : GC p s m args c cX_dropReference 3 RX wsA (dC, dI) gx_cl [(cI, .int), (cZ, .boolean)] A) (hr : meth.sig.returnType = none) (hlocks : meth.locks = false) (S : GS) (v1 : Int32) (v2 : Int32) (hs : sp_X_dropReference W E RC post (vh_X_dropReference o (GV p l e (rmdl (d + 1)) s m args below meth c (MQ below (va_Qv post (GB (xw cI cZ o W E) (dC, dI) gx_cl [(cI, .int), (cZ, .boolean)] A) A) args s 0 0 A) 3 (dC, dI) gx_cl A (xw cI cZ o W E))) 0 S [v1, v2]) : GV p l e (rmdl (d + 1)) s m args below meth c (MQ below (va_Qv post (GB (xw cI cZ o W E) (dC, dI) gx_cl [(cI, .int), (cZ, .boolean)] A) A) args s 0 0 A) 3 (dC, dI) gx_cl A (xw cI cZ o W E) S 0 [(0, .ref (o 0)), (1, .int v1), (2, .int v2)] [] := by
  refine gx_aload_n C dX_dropReference_0 0 rfl rfl ?_
  refine gx_iload_n C dX_dropReference_1 1 rfl rfl ?_
  refine gx_calli (As := [.int v1]) (rest := []) C (mt_X_isObject l dC dI cI cZ o W E _ _ _ hs) (gx_cwV C 1 ln_X_87 im_X_isObject se_X_isObject in_CountedObjects cd_X_isObject rfl rfl (by decide +kernel) ⟨by show 1 + 1 ≤ d + 1 + 4; omega, by show 8 + (2 + 11) + 21 ≤ 24 * (d + 1) + 200; omega⟩) xo_this rfl (Nat.le_of_ble_eq_true rfl) dX_dropReference_2 (fun S1 => xw_ad _ S1) rfl (fun r2 S1 hs => ?_)
  obtain ⟨ht, hf⟩ := hs
  refine gx_if_eq C dX_dropReference_5 21 rfl (fun hc => ?_) (fun hc => ?_)
  · have hs := ht hc
    exact gx_vret C hr hlocks dX_dropReference_21 hs
  · have hs := hf hc
    refine gx_aload_n C dX_dropReference_8 0 rfl rfl ?_
    refine gx_get C xo_this hi_X 2 (by decide) fl_X_25 rfl dX_dropReference_9 ?_
    refine gx_iload_n C dX_dropReference_12 1 rfl rfl ?_
    refine gx_iconst (v := 2) C dX_dropReference_13 (by decide) ?_
    refine gx_idiv C dX_dropReference_14 (by decide) ?_
    obtain ⟨hin, hs⟩ := hs
    refine gx_iald C xa_counts hin dX_dropReference_15 ?_
    refine gx_bipush (v := 7) C dX_dropReference_16 (by decide) ?_
    obtain ⟨ht, hf⟩ := hs
    refine gx_icmp_ne C dX_dropReference_18 22 rfl (fun hc => ?_) (fun hc => ?_)
    · have hs := ht hc
      refine gx_aload_n C dX_dropReference_22 0 rfl rfl ?_
      refine gx_get C xo_this hi_X 2 (by decide) fl_X_25 rfl dX_dropReference_23 ?_
      refine gx_iload_n C dX_dropReference_26 1 rfl rfl ?_
      refine gx_iconst (v := 2) C dX_dropReference_27 (by decide) ?_
      refine gx_idiv C dX_dropReference_28 (by decide) ?_
      refine gx_dup2 C dX_dropReference_29 rfl rfl ?_
      obtain ⟨hin, hs⟩ := hs
      refine gx_iald C xa_counts hin dX_dropReference_30 ?_
      refine gx_iconst (v := 1) C dX_dropReference_31 (by decide) ?_
      refine gx_isub C dX_dropReference_32 ?_
      obtain ⟨hin, hs⟩ := hs
      refine gx_iast C xa_counts hin dX_dropReference_33 (fun S3 eS3 => ?_)
      replace hs := hs S3 eS3
      refine gx_aload_n C dX_dropReference_34 0 rfl rfl ?_
      refine gx_get C xo_this hi_X 2 (by decide) fl_X_25 rfl dX_dropReference_35 ?_
      refine gx_iload_n C dX_dropReference_38 1 rfl rfl ?_
      refine gx_iconst (v := 2) C dX_dropReference_39 (by decide) ?_
      refine gx_idiv C dX_dropReference_40 (by decide) ?_
      obtain ⟨hin, hs⟩ := hs
      refine gx_iald C xa_counts hin dX_dropReference_41 ?_
      obtain ⟨ht, hf⟩ := hs
      refine gx_if_ne C dX_dropReference_42 53 rfl (fun hc => ?_) (fun hc => ?_)
      · have hs := ht hc
        exact gx_vret C hr hlocks dX_dropReference_53 hs
      · have hs := hf hc
        refine gx_aload_n C dX_dropReference_45 0 rfl rfl ?_
        refine gx_iload_n C dX_dropReference_46 1 rfl rfl ?_
        refine gx_iconst (v := 2) C dX_dropReference_47 (by decide) ?_
        refine gx_idiv C dX_dropReference_48 (by decide) ?_
        refine gx_iload_n C dX_dropReference_49 2 rfl rfl ?_
        refine gx_callv (As := [.int (v1 / 2), .int v2]) (rest := []) C (hRC _ _ _ _ hs) (gx_cwV C 2 ln_X_123 im_X_letGo se_X_letGo in_CountedObjects cd_X_letGo rfl rfl (by decide +kernel) ⟨by show d + 4 + 1 ≤ d + 1 + 4; omega, by show 8 + (5 + 11) + (24 * d + 200) ≤ 24 * (d + 1) + 200; omega⟩) xo_this rfl (Nat.le_of_ble_eq_true rfl) dX_dropReference_50 (fun S1 => xw_ad _ S1) rfl (fun S4 hs => ?_)
        exact gx_vret C hr hlocks dX_dropReference_53 hs
    · have hs := hf hc
      exact gx_vret C hr hlocks dX_dropReference_21 hs
/-- CountedObjects.letGo(II)V: a step from head to head -/
def sp_X_letGo (W E : Nat) (RC : List Int32 → GS → (GS → Prop) → Prop) (post : GS → Prop) (V : Nat → GS → List Int32 → Prop) (h : Nat) (S : GS) (xs : List Int32) : Prop := match h, xs with
  | 0, [v1, v2] => ((v2 < 40 → (vp_in v1 (E + 1) ∧ wp_X_wordsOf W E [v1] S (fun r2 S1 => ∀ y3 : Int32, y3 = (S 1 (v1).toNatClampNeg) + r2 → (vp_in v1 (E + 1) ∧ ∀ y4 : Int32, y4 = (S1 1 (v1).toNatClampNeg) + 1 → V 30 S1 [v1, v2, y3, y4])))) ∧ (¬ v2 < 40 → post S))
  | 30, [v1, v2, v3, v4] => ((v3 ≤ v4 → wp_X_freeEntry W E [v1] S (fun S1 => post S1)) ∧ (¬ v3 ≤ v4 → (vp_in v4 W ∧ RC [S 0 (v4).toNatClampNeg, v2 + 1] S (fun S3 => (∀ y5 : Int32, y5 = v4 + 1 → V 30 S3 [v1, v2, v3, y5])))))
  | _, _ => False
def vh_X_letGo (o : Nat → Nat) (G : GS → Nat → List (Nat × Value) → List Value → Prop) (h : Nat) (S : GS) (xs : List Int32) : Prop := match h, xs with
  | 0, [v1, v2] => G S 0 [(0, .ref (o 0)), (1, .int v1), (2, .int v2)] []
  | 30, [v1, v2, v3, v4] => G S 30 [(0, .ref (o 0)), (1, .int v1), (2, .int v2), (3, .int v3), (4, .int v4)] []
  | _, _ => True
set_option maxHeartbeats 4000000 in
set_option maxRecDepth 100000 in
theorem wk_X_letGo_0 {l : Launch} {dC : Nat → ClassId} {dI : Nat → Nat → Nat} {cI cZ : ClassId} {o : Nat → Nat} {W E : Nat} {p : Program} {e : Env} {s : State} {m : MethodId} {args : Array Value} {below : List Frame} {meth : Method} {c : Code} {A : Nat → Prop} {post : GS → Prop} {d : Nat} {RC : List Int32 → GS → (GS → Prop) → Prop} (hRC : ∀ (a b : Int32) (S : GS) (post : GS → Prop), RC [a, b] S post → MetV l yX_dropReference (Cond.code yX_dropReference cX_dropReference 3 none :: wsA) (rmdl d) (dC, dI) gx_cl [(cI, .int), (cZ, .boolean)] (xw cI cZ o W E) [.ref (o 0), .int a, .int b] S post) (C : GC p s m args c cX_letGo 5 RX wsA (dC, dI) gx_cl [(cI, .int), (cZ, .boolean)] A) (hr : meth.sig.returnType = none) (hlocks : meth.locks = false) (S : GS) (v1 : Int32) (v2 : Int32) (hs : sp_X_letGo W E RC post (vh_X_letGo o (GV p l e (rmdl (d + 1)) s m args below meth c (MQ below (va_Qv post (GB (xw cI cZ o W E) (dC, dI) gx_cl [(cI, .int), (cZ, .boolean)] A) A) args s 0 0 A) 5 (dC, dI) gx_cl A (xw cI cZ o W E))) 0 S [v1, v2]) : GV p l e (rmdl (d + 1)) s m args below meth c (MQ below (va_Qv post (GB (xw cI cZ o W E) (dC, dI) gx_cl [(cI, .int), (cZ, .boolean)] A) A) args s 0 0 A) 5 (dC, dI) gx_cl A (xw cI cZ o W E) S 0 [(0, .ref (o 0)), (1, .int v1), (2, .int v2)] [] := by
  refine gx_iload_n C dX_letGo_0 2 rfl rfl ?_
  refine gx_bipush (v := 40) C dX_letGo_1 (by decide) ?_
  obtain ⟨ht, hf⟩ := hs
  refine gx_icmp_lt C dX_letGo_3 7 rfl (fun hc => ?_) (fun hc => ?_)
  · have hs := ht hc
    refine gx_aload_n C dX_letGo_7 0 rfl rfl ?_
    refine gx_get C xo_this hi_X 1 (by decide) fl_X_22 rfl dX_letGo_8 ?_
    refine gx_iload_n C dX_letGo_11 1 rfl rfl ?_
    obtain ⟨hin, hs⟩ := hs
    refine gx_iald C xa_addresses hin dX_letGo_12 ?_
    refine gx_aload_n C dX_letGo_13 0 rfl rfl ?_
    refine gx_iload_n C dX_letGo_14 1 rfl rfl ?_
    refine gx_calli (As := [.int v1]) (rest := [.int (S 1 (v1).toNatClampNeg)]) C (mt_X_wordsOf l dC dI cI cZ o W E _ _ _ hs) (gx_cwV C 1 ln_X_126 im_X_wordsOf se_X_wordsOf in_CountedObjects cd_X_wordsOf rfl rfl (by decide +kernel) ⟨by show 0 + 1 ≤ d + 1 + 4; omega, by show 8 + (2 + 11) + 0 ≤ 24 * (d + 1) + 200; omega⟩) xo_this rfl (Nat.le_of_ble_eq_true rfl) dX_letGo_15 (fun S1 => xw_ad _ S1) rfl (fun r2 S1 hs => ?_)
    refine gx_iadd C dX_letGo_18 ?_
    refine gx_top (fun y3 ey3 => ?_)
    replace hs := hs y3 ey3
    refine gx_istore_n (L' := [(3, .int y3), (0, .ref (o 0)), (1, .int v1), (2, .int v2)]) C dX_letGo_19 rfl (by decide) rfl ?_
    refine gx_aload_n C dX_letGo_20 1 rfl rfl ?_
    refine gx_get C xo_this hi_X 1 (by decide) fl_X_22 rfl dX_letGo_21 ?_
    refine gx_iload_n C dX_letGo_24 2 rfl rfl ?_
    obtain ⟨hin, hs⟩ := hs
    refine gx_iald C xa_addresses hin dX_letGo_25 ?_
    refine gx_iconst (v := 1) C dX_letGo_26 (by decide) ?_
    refine gx_iadd C dX_letGo_27 ?_
    refine gx_top (fun y4 ey4 => ?_)
    replace hs := hs y4 ey4
    refine gx_istore (L' := [(4, .int y4), (3, .int y3), (0, .ref (o 0)), (1, .int v1), (2, .int v2)]) C dX_letGo_28 (by decide) rfl ?_
    exact gx_sub [2, 3, 4, 1, 0] rfl hs
  · have hs := hf hc
    exact gx_vret C hr hlocks dX_letGo_6 hs
set_option maxHeartbeats 4000000 in
set_option maxRecDepth 100000 in
theorem wk_X_letGo_30 {l : Launch} {dC : Nat → ClassId} {dI : Nat → Nat → Nat} {cI cZ : ClassId} {o : Nat → Nat} {W E : Nat} {p : Program} {e : Env} {s : State} {m : MethodId} {args : Array Value} {below : List Frame} {meth : Method} {c : Code} {A : Nat → Prop} {post : GS → Prop} {d : Nat} {RC : List Int32 → GS → (GS → Prop) → Prop} (hRC : ∀ (a b : Int32) (S : GS) (post : GS → Prop), RC [a, b] S post → MetV l yX_dropReference (Cond.code yX_dropReference cX_dropReference 3 none :: wsA) (rmdl d) (dC, dI) gx_cl [(cI, .int), (cZ, .boolean)] (xw cI cZ o W E) [.ref (o 0), .int a, .int b] S post) (C : GC p s m args c cX_letGo 5 RX wsA (dC, dI) gx_cl [(cI, .int), (cZ, .boolean)] A) (hr : meth.sig.returnType = none) (hlocks : meth.locks = false) (S : GS) (v1 : Int32) (v2 : Int32) (v3 : Int32) (v4 : Int32) (hs : sp_X_letGo W E RC post (vh_X_letGo o (GV p l e (rmdl (d + 1)) s m args below meth c (MQ below (va_Qv post (GB (xw cI cZ o W E) (dC, dI) gx_cl [(cI, .int), (cZ, .boolean)] A) A) args s 0 0 A) 5 (dC, dI) gx_cl A (xw cI cZ o W E))) 30 S [v1, v2, v3, v4]) : GV p l e (rmdl (d + 1)) s m args below meth c (MQ below (va_Qv post (GB (xw cI cZ o W E) (dC, dI) gx_cl [(cI, .int), (cZ, .boolean)] A) A) args s 0 0 A) 5 (dC, dI) gx_cl A (xw cI cZ o W E) S 30 [(0, .ref (o 0)), (1, .int v1), (2, .int v2), (3, .int v3), (4, .int v4)] [] := by
  refine gx_iload C dX_letGo_30 4 rfl ?_
  refine gx_iload_n C dX_letGo_32 3 rfl rfl ?_
  obtain ⟨ht, hf⟩ := hs
  refine gx_icmp_ge C dX_letGo_33 56 rfl (fun hc => ?_) (fun hc => ?_)
  · have hs := ht hc
    refine gx_aload_n C dX_letGo_56 0 rfl rfl ?_
    refine gx_iload_n C dX_letGo_57 1 rfl rfl ?_
    refine gx_callv (As := [.int v1]) (rest := []) C (mt_X_freeEntry l dC dI cI cZ o W E _ _ _ hs) (gx_cwV C 1 ln_X_129 im_X_freeEntry se_X_freeEntry in_CountedObjects cd_X_freeEntry rfl rfl (by decide +kernel) ⟨by show 1 + 1 ≤ d + 1 + 4; omega, by show 8 + (2 + 11) + 22 ≤ 24 * (d + 1) + 200; omega⟩) xo_this rfl (Nat.le_of_ble_eq_true rfl) dX_letGo_58 (fun S1 => xw_ad _ S1) rfl (fun S1 hs => ?_)
    exact gx_vret C hr hlocks dX_letGo_61 hs
  · have hs := hf hc
    refine gx_aload_n C dX_letGo_36 0 rfl rfl ?_
    refine gx_aload_n C dX_letGo_37 0 rfl rfl ?_
    refine gx_get C xo_this hi_X 0 (by decide) fl_X_18 rfl dX_letGo_38 ?_
    refine gx_iload C dX_letGo_41 4 rfl ?_
    obtain ⟨hin, hs⟩ := hs
    refine gx_iald C xa_words hin dX_letGo_43 ?_
    refine gx_iload_n C dX_letGo_44 2 rfl rfl ?_
    refine gx_iconst (v := 1) C dX_letGo_45 (by decide) ?_
    refine gx_iadd C dX_letGo_46 ?_
    refine gx_callv (As := [.int (S 0 (v4).toNatClampNeg), .int (v2 + 1)]) (rest := []) C (hRC _ _ _ _ hs) (gx_cwV C 2 ln_X_100 im_X_dropReference se_X_dropReference in_CountedObjects cd_X_dropReference rfl rfl (by decide +kernel) ⟨by show d + 4 + 1 ≤ d + 1 + 4; omega, by show 8 + (3 + 11) + (24 * d + 200) ≤ 24 * (d + 1) + 200; omega⟩) xo_this rfl (Nat.le_of_ble_eq_true rfl) dX_letGo_47 (fun S1 => xw_ad _ S1) rfl (fun S3 hs => ?_)
    refine gx_iinc (v0 := 1) (f := fun v => [(4, .int v), (0, .ref (o 0)), (1, .int v1), (2, .int v2), (3, .int v3)]) C dX_letGo_50 4 rfl (by decide) (by decide) (fun _ => rfl) (fun y5 ey5 => ?_)
    replace hs := hs y5 ey5
    refine gx_goto C dX_letGo_53 30 rfl ?_
    exact gx_sub [1, 2, 3, 4, 0] rfl hs
def wp_X_dl (W E : Nat) : Nat → Bool → List Int32 → GS → (GS → Prop) → Prop
  | 0, _, _, _, _ => False
  | d + 1, true, xs, S, post => ∀ V : Nat → GS → List Int32 → Prop, (∀ h S xs, sp_X_dropReference W E (wp_X_dl W E d false) post V h S xs → V h S xs) → V 0 S xs
  | d + 1, false, xs, S, post => ∀ V : Nat → GS → List Int32 → Prop, (∀ h S xs, sp_X_letGo W E (wp_X_dl W E d true) post V h S xs → V h S xs) → V 0 S xs
set_option maxHeartbeats 4000000 in
set_option maxRecDepth 100000 in
theorem mt_X_dl (l : Launch) (dC : Nat → ClassId) (dI : Nat → Nat → Nat) (cI cZ : ClassId) (o : Nat → Nat) (W E : Nat) : ∀ d : Nat, (∀ (v1 v2 : Int32) (S : GS) (post : GS → Prop), wp_X_dl W E d true [v1, v2] S post → MetV l yX_dropReference (Cond.code yX_dropReference cX_dropReference 3 none :: wsA) (rmdl d) (dC, dI) gx_cl [(cI, .int), (cZ, .boolean)] (xw cI cZ o W E) [.ref (o 0), .int v1, .int v2] S post) ∧ (∀ (v1 v2 : Int32) (S : GS) (post : GS → Prop), wp_X_dl W E d false [v1, v2] S post → MetV l yX_letGo (Cond.code yX_letGo cX_letGo 5 none :: wsA) (rmdl d) (dC, dI) gx_cl [(cI, .int), (cZ, .boolean)] (xw cI cZ o W E) [.ref (o 0), .int v1, .int v2] S post) := by
  intro d
  induction d with
  | zero => exact ⟨fun _ _ _ _ h => h.elim, fun _ _ _ _ h => h.elim⟩
  | succ d ih =>
    refine ⟨fun v1 v2 S post h => ?_, fun v1 v2 S post h => ?_⟩
    · refine gx_metV (by decide) wsA_good (Nat.le_of_ble_eq_true rfl) ?_
      intro p e s m args below meth c A C hr hlocks
      refine h (vh_X_dropReference o (GV p l e (rmdl (d + 1)) s m args below meth c (MQ below (va_Qv post (GB (xw cI cZ o W E) (dC, dI) gx_cl [(cI, .int), (cZ, .boolean)] A) A) args s 0 0 A) 3 (dC, dI) gx_cl A (xw cI cZ o W E))) (fun h S xs hs => ?_)
      unfold sp_X_dropReference at hs
      split at hs
      · exact wk_X_dropReference_0 ih.2 C hr hlocks _ _ _ hs
      · exact hs.elim
    · refine gx_metV (by decide) wsA_good (Nat.le_of_ble_eq_true rfl) ?_
      intro p e s m args below meth c A C hr hlocks
      refine h (vh_X_letGo o (GV p l e (rmdl (d + 1)) s m args below meth c (MQ below (va_Qv post (GB (xw cI cZ o W E) (dC, dI) gx_cl [(cI, .int), (cZ, .boolean)] A) A) args s 0 0 A) 5 (dC, dI) gx_cl A (xw cI cZ o W E))) (fun h S xs hs => ?_)
      unfold sp_X_letGo at hs
      split at hs
      · exact wk_X_letGo_0 ih.1 C hr hlocks _ _ _ hs
      · exact wk_X_letGo_30 ih.1 C hr hlocks _ _ _ _ _ hs
      · exact hs.elim
/-- CountedObjects.replaceRegister(II)I: a step from head to head -/
def sp_X_replaceRegister (W E : Nat) (post : Int32 → GS → Prop) (V : Nat → GS → List Int32 → Prop) (h : Nat) (S : GS) (xs : List Int32) : Prop := match h, xs with
  | 0, [v1, v2] => (vp_in v1 8 ∧ ∀ y1 : Int32, y1 = S 3 (v1).toNatClampNeg → wp_X_addReference W E [v2] S (fun S2 => (vp_in v1 8 ∧ ∀ S4 : GS, S4 = gx_set 3 (v1).toNatClampNeg v2 S2 → wp_X_dl W E 90 true [y1, 0] S4 (fun S5 => post y1 S5))))
  | _, _ => False
def wp_X_replaceRegister (W E : Nat) (xs : List Int32) (S : GS) (post : Int32 → GS → Prop) : Prop := ∀ V : Nat → GS → List Int32 → Prop, (∀ h S xs, sp_X_replaceRegister W E post V h S xs → V h S xs) → V 0 S xs
def vh_X_replaceRegister (o : Nat → Nat) (G : GS → Nat → List (Nat × Value) → List Value → Prop) (h : Nat) (S : GS) (xs : List Int32) : Prop := match h, xs with
  | 0, [v1, v2] => G S 0 [(0, .ref (o 0)), (1, .int v1), (2, .int v2)] []
  | _, _ => True
set_option maxHeartbeats 4000000 in
set_option maxRecDepth 100000 in
theorem wk_X_replaceRegister_0 {l : Launch} {dC : Nat → ClassId} {dI : Nat → Nat → Nat} {cI cZ : ClassId} {o : Nat → Nat} {W E : Nat} {p : Program} {e : Env} {s : State} {m : MethodId} {args : Array Value} {below : List Frame} {meth : Method} {c : Code} {A : Nat → Prop} {post : Int32 → GS → Prop} (C : GC p s m args c cX_replaceRegister 4 RX wsA (dC, dI) gx_cl [(cI, .int), (cZ, .boolean)] A) (hr : meth.sig.returnType = (some .int)) (hlocks : meth.locks = false) (S : GS) (v1 : Int32) (v2 : Int32) (hs : sp_X_replaceRegister W E post (vh_X_replaceRegister o (GV p l e ({ frames := 95, cells := 0, slots := 0, locals := 2382 }) s m args below meth c (MQ below (va_Qi post (GB (xw cI cZ o W E) (dC, dI) gx_cl [(cI, .int), (cZ, .boolean)] A) A) args s 0 0 A) 4 (dC, dI) gx_cl A (xw cI cZ o W E))) 0 S [v1, v2]) : GV p l e ({ frames := 95, cells := 0, slots := 0, locals := 2382 }) s m args below meth c (MQ below (va_Qi post (GB (xw cI cZ o W E) (dC, dI) gx_cl [(cI, .int), (cZ, .boolean)] A) A) args s 0 0 A) 4 (dC, dI) gx_cl A (xw cI cZ o W E) S 0 [(0, .ref (o 0)), (1, .int v1), (2, .int v2)] [] := by
  refine gx_aload_n C dX_replaceRegister_0 0 rfl rfl ?_
  refine gx_get C xo_this hi_X 3 (by decide) fl_X_28 rfl dX_replaceRegister_1 ?_
  refine gx_iload_n C dX_replaceRegister_4 1 rfl rfl ?_
  obtain ⟨hin, hs⟩ := hs
  refine gx_iald C xa_registers hin dX_replaceRegister_5 ?_
  refine gx_top (fun y1 ey1 => ?_)
  replace hs := hs y1 ey1
  refine gx_istore_n (L' := [(3, .int y1), (0, .ref (o 0)), (1, .int v1), (2, .int v2)]) C dX_replaceRegister_6 rfl (by decide) rfl ?_
  refine gx_aload_n C dX_replaceRegister_7 1 rfl rfl ?_
  refine gx_iload_n C dX_replaceRegister_8 3 rfl rfl ?_
  refine gx_callv (As := [.int v2]) (rest := []) C (mt_X_addReference l dC dI cI cZ o W E _ _ _ hs) (gx_cwV C 1 ln_X_97 im_X_addReference se_X_addReference in_CountedObjects cd_X_addReference rfl rfl (by decide +kernel) ⟨Nat.le_of_ble_eq_true rfl, Nat.le_of_ble_eq_true rfl⟩) xo_this rfl (Nat.le_of_ble_eq_true rfl) dX_replaceRegister_9 (fun S1 => xw_ad _ S1) rfl (fun S2 hs => ?_)
  refine gx_aload_n C dX_replaceRegister_12 1 rfl rfl ?_
  refine gx_get C xo_this hi_X 3 (by decide) fl_X_28 rfl dX_replaceRegister_13 ?_
  refine gx_iload_n C dX_replaceRegister_16 2 rfl rfl ?_
  refine gx_iload_n C dX_replaceRegister_17 3 rfl rfl ?_
  obtain ⟨hin, hs⟩ := hs
  refine gx_iast C xa_registers hin dX_replaceRegister_18 (fun S4 eS4 => ?_)
  replace hs := hs S4 eS4
  refine gx_aload_n C dX_replaceRegister_19 1 rfl rfl ?_
  refine gx_iload_n C dX_replaceRegister_20 0 rfl rfl ?_
  refine gx_iconst (v := 0) C dX_replaceRegister_21 (by decide) ?_
  refine gx_callv (As := [.int y1, .int 0]) (rest := []) C ((mt_X_dl l dC dI cI cZ o W E 90).1 _ _ _ _ hs) (gx_cwV C 2 ln_X_100 im_X_dropReference se_X_dropReference in_CountedObjects cd_X_dropReference rfl rfl (by decide +kernel) ⟨Nat.le_of_ble_eq_true rfl, Nat.le_of_ble_eq_true rfl⟩) xo_this rfl (Nat.le_of_ble_eq_true rfl) dX_replaceRegister_22 (fun S1 => xw_ad _ S1) rfl (fun S5 hs => ?_)
  refine gx_iload_n C dX_replaceRegister_25 0 rfl rfl ?_
  exact gx_iret C hr hlocks dX_replaceRegister_26 hs
set_option maxHeartbeats 4000000 in
set_option maxRecDepth 100000 in
theorem mt_X_replaceRegister (l : Launch) (dC : Nat → ClassId) (dI : Nat → Nat → Nat) (cI cZ : ClassId) (o : Nat → Nat) (W E : Nat) (v1 : Int32) (v2 : Int32) (S : GS) (post : Int32 → GS → Prop) (h : wp_X_replaceRegister W E [v1, v2] S post) : MetI l yX_replaceRegister (Cond.code yX_replaceRegister cX_replaceRegister 4 (some .int) :: wsA) ({ frames := 95, cells := 0, slots := 0, locals := 2382 }) (dC, dI) gx_cl [(cI, .int), (cZ, .boolean)] (xw cI cZ o W E) [.ref (o 0), .int v1, .int v2] S post := by
  refine gx_metI (by decide) wsA_good (Nat.le_of_ble_eq_true rfl) ?_
  intro p e s m args below meth c A C hr hlocks
  refine h (vh_X_replaceRegister o (GV p l e ({ frames := 95, cells := 0, slots := 0, locals := 2382 }) s m args below meth c (MQ below (va_Qi post (GB (xw cI cZ o W E) (dC, dI) gx_cl [(cI, .int), (cZ, .boolean)] A) A) args s 0 0 A) 4 (dC, dI) gx_cl A (xw cI cZ o W E))) (fun h S xs hs => ?_)
  unfold sp_X_replaceRegister at hs
  split at hs
  · exact wk_X_replaceRegister_0 C hr hlocks _ _ _ hs
  · exact hs.elim
end
