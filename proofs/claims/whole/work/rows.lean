section
-- ===== PART A: goes FIRST, ahead of the names: the tables' words, and 'selects' of the private methods out of them =====
/-- a private method of a class that the tables say can be made, by its rows of tables_1 -/
def lw_okq (q : MethodName × Nat) : Prop := (q.1.cls ≠ "java/lang/invoke/MethodHandle" ∧ q.1.cls ≠ "java/lang/invoke/VarHandle") ∧ Cond.instantiable q.1.cls q.2 ∈ tables_1 ∧ Cond.privateMethod q.1 ∈ tables_1 ∧ Cond.instanceMethod q.1 ∈ tables_1
theorem lw_p0 : lw_okq (⟨"CountedObjects", "takeUnreached", "(I)I"⟩, 8) := ⟨⟨by decide +kernel, by decide +kernel⟩, List.mem_of_getElem? (i := 14) (by decide +kernel), List.mem_of_getElem? (i := 79) (by decide +kernel), List.mem_of_getElem? (i := 80) (by decide +kernel)⟩
theorem lw_p1 : lw_okq (⟨"CountedObjects", "findReached", "(I)V"⟩, 8) := ⟨⟨by decide +kernel, by decide +kernel⟩, List.mem_of_getElem? (i := 14) (by decide +kernel), List.mem_of_getElem? (i := 83) (by decide +kernel), List.mem_of_getElem? (i := 84) (by decide +kernel)⟩
theorem lw_p2 : lw_okq (⟨"CountedObjects", "reach", "(I)V"⟩, 8) := ⟨⟨by decide +kernel, by decide +kernel⟩, List.mem_of_getElem? (i := 14) (by decide +kernel), List.mem_of_getElem? (i := 87) (by decide +kernel), List.mem_of_getElem? (i := 88) (by decide +kernel)⟩
theorem lw_p3 : lw_okq (⟨"CountedObjects", "isObject", "(I)Z"⟩, 8) := ⟨⟨by decide +kernel, by decide +kernel⟩, List.mem_of_getElem? (i := 14) (by decide +kernel), List.mem_of_getElem? (i := 91) (by decide +kernel), List.mem_of_getElem? (i := 92) (by decide +kernel)⟩
theorem lw_p4 : lw_okq (⟨"CountedObjects", "isUsed", "(I)Z"⟩, 8) := ⟨⟨by decide +kernel, by decide +kernel⟩, List.mem_of_getElem? (i := 14) (by decide +kernel), List.mem_of_getElem? (i := 95) (by decide +kernel), List.mem_of_getElem? (i := 96) (by decide +kernel)⟩
theorem lw_p5 : lw_okq (⟨"CountedObjects", "wordsOf", "(I)I"⟩, 8) := ⟨⟨by decide +kernel, by decide +kernel⟩, List.mem_of_getElem? (i := 14) (by decide +kernel), List.mem_of_getElem? (i := 99) (by decide +kernel), List.mem_of_getElem? (i := 100) (by decide +kernel)⟩
theorem lw_p6 : lw_okq (⟨"CountedObjects", "freeEntry", "(I)V"⟩, 8) := ⟨⟨by decide +kernel, by decide +kernel⟩, List.mem_of_getElem? (i := 14) (by decide +kernel), List.mem_of_getElem? (i := 103) (by decide +kernel), List.mem_of_getElem? (i := 104) (by decide +kernel)⟩
theorem lw_p7 : lw_okq (⟨"CountedObjects", "countAnew", "()V"⟩, 8) := ⟨⟨by decide +kernel, by decide +kernel⟩, List.mem_of_getElem? (i := 14) (by decide +kernel), List.mem_of_getElem? (i := 111) (by decide +kernel), List.mem_of_getElem? (i := 112) (by decide +kernel)⟩
theorem lw_p8 : lw_okq (⟨"CountedObjects", "addReference", "(I)V"⟩, 8) := ⟨⟨by decide +kernel, by decide +kernel⟩, List.mem_of_getElem? (i := 14) (by decide +kernel), List.mem_of_getElem? (i := 115) (by decide +kernel), List.mem_of_getElem? (i := 116) (by decide +kernel)⟩
theorem lw_p9 : lw_okq (⟨"CountedObjects", "moveTogether", "()I"⟩, 8) := ⟨⟨by decide +kernel, by decide +kernel⟩, List.mem_of_getElem? (i := 14) (by decide +kernel), List.mem_of_getElem? (i := 123) (by decide +kernel), List.mem_of_getElem? (i := 124) (by decide +kernel)⟩
theorem lw_p10 : lw_okq (⟨"CountedObjects", "lowestFrom", "(I)I"⟩, 8) := ⟨⟨by decide +kernel, by decide +kernel⟩, List.mem_of_getElem? (i := 14) (by decide +kernel), List.mem_of_getElem? (i := 127) (by decide +kernel), List.mem_of_getElem? (i := 128) (by decide +kernel)⟩
theorem lw_p11 : lw_okq (⟨"java/lang/Throwable", "fillInStackTrace", "(I)Ljava/lang/Throwable;"⟩, 6) := ⟨⟨by decide +kernel, by decide +kernel⟩, List.mem_of_getElem? (i := 224) (by decide +kernel), List.mem_of_getElem? (i := 222) (by decide +kernel), List.mem_of_getElem? (i := 223) (by decide +kernel)⟩
theorem lw_p12 : lw_okq (⟨"CountedObjects", "isValue", "(I)Z"⟩, 8) := ⟨⟨by decide +kernel, by decide +kernel⟩, List.mem_of_getElem? (i := 14) (by decide +kernel), List.mem_of_getElem? (i := 249) (by decide +kernel), List.mem_of_getElem? (i := 250) (by decide +kernel)⟩
theorem lw_p13 : lw_okq (⟨"CountedObjects", "findRoom", "(II)I"⟩, 8) := ⟨⟨by decide +kernel, by decide +kernel⟩, List.mem_of_getElem? (i := 14) (by decide +kernel), List.mem_of_getElem? (i := 268) (by decide +kernel), List.mem_of_getElem? (i := 269) (by decide +kernel)⟩
theorem lw_p14 : lw_okq (⟨"CountedObjects", "leastFreeEntry", "()I"⟩, 8) := ⟨⟨by decide +kernel, by decide +kernel⟩, List.mem_of_getElem? (i := 14) (by decide +kernel), List.mem_of_getElem? (i := 272) (by decide +kernel), List.mem_of_getElem? (i := 273) (by decide +kernel)⟩
theorem lw_p15 : lw_okq (⟨"CountedObjects", "place", "(I)I"⟩, 8) := ⟨⟨by decide +kernel, by decide +kernel⟩, List.mem_of_getElem? (i := 14) (by decide +kernel), List.mem_of_getElem? (i := 276) (by decide +kernel), List.mem_of_getElem? (i := 277) (by decide +kernel)⟩
def lw_privs_1 : List (MethodName × Nat) := [(⟨"CountedObjects", "takeUnreached", "(I)I"⟩, 8), (⟨"CountedObjects", "findReached", "(I)V"⟩, 8), (⟨"CountedObjects", "reach", "(I)V"⟩, 8), (⟨"CountedObjects", "isObject", "(I)Z"⟩, 8), (⟨"CountedObjects", "isUsed", "(I)Z"⟩, 8), (⟨"CountedObjects", "wordsOf", "(I)I"⟩, 8), (⟨"CountedObjects", "freeEntry", "(I)V"⟩, 8), (⟨"CountedObjects", "countAnew", "()V"⟩, 8), (⟨"CountedObjects", "addReference", "(I)V"⟩, 8), (⟨"CountedObjects", "moveTogether", "()I"⟩, 8), (⟨"CountedObjects", "lowestFrom", "(I)I"⟩, 8), (⟨"java/lang/Throwable", "fillInStackTrace", "(I)Ljava/lang/Throwable;"⟩, 6), (⟨"CountedObjects", "isValue", "(I)Z"⟩, 8), (⟨"CountedObjects", "findRoom", "(II)I"⟩, 8), (⟨"CountedObjects", "leastFreeEntry", "()I"⟩, 8), (⟨"CountedObjects", "place", "(I)I"⟩, 8)]
theorem lw_r1 : ∀ q ∈ lw_privs_1, lw_okq q := List.forall_mem_cons.mpr ⟨lw_p0, List.forall_mem_cons.mpr ⟨lw_p1, List.forall_mem_cons.mpr ⟨lw_p2, List.forall_mem_cons.mpr ⟨lw_p3, List.forall_mem_cons.mpr ⟨lw_p4, List.forall_mem_cons.mpr ⟨lw_p5, List.forall_mem_cons.mpr ⟨lw_p6, List.forall_mem_cons.mpr ⟨lw_p7, List.forall_mem_cons.mpr ⟨lw_p8, List.forall_mem_cons.mpr ⟨lw_p9, List.forall_mem_cons.mpr ⟨lw_p10, List.forall_mem_cons.mpr ⟨lw_p11, List.forall_mem_cons.mpr ⟨lw_p12, List.forall_mem_cons.mpr ⟨lw_p13, List.forall_mem_cons.mpr ⟨lw_p14, List.forall_mem_cons.mpr ⟨lw_p15, fun _ h => absurd h List.not_mem_nil⟩⟩⟩⟩⟩⟩⟩⟩⟩⟩⟩⟩⟩⟩⟩⟩
theorem lw_p16 : lw_okq (⟨"CountedObjects$FreeChunks", "bestFor", "(I)I"⟩, 3) := ⟨⟨by decide +kernel, by decide +kernel⟩, List.mem_of_getElem? (i := 28) (by decide +kernel), List.mem_of_getElem? (i := 284) (by decide +kernel), List.mem_of_getElem? (i := 285) (by decide +kernel)⟩
theorem lw_p17 : lw_okq (⟨"CountedObjects$FreeChunks", "remove", "(I)V"⟩, 3) := ⟨⟨by decide +kernel, by decide +kernel⟩, List.mem_of_getElem? (i := 28) (by decide +kernel), List.mem_of_getElem? (i := 288) (by decide +kernel), List.mem_of_getElem? (i := 289) (by decide +kernel)⟩
theorem lw_p18 : lw_okq (⟨"CountedObjects", "makeObject", "(IIII)V"⟩, 8) := ⟨⟨by decide +kernel, by decide +kernel⟩, List.mem_of_getElem? (i := 14) (by decide +kernel), List.mem_of_getElem? (i := 309) (by decide +kernel), List.mem_of_getElem? (i := 310) (by decide +kernel)⟩
theorem lw_p19 : lw_okq (⟨"CountedObjects", "replaceRegister", "(II)I"⟩, 8) := ⟨⟨by decide +kernel, by decide +kernel⟩, List.mem_of_getElem? (i := 14) (by decide +kernel), List.mem_of_getElem? (i := 313) (by decide +kernel), List.mem_of_getElem? (i := 314) (by decide +kernel)⟩
theorem lw_p20 : lw_okq (⟨"CountedObjects", "dropReference", "(II)V"⟩, 8) := ⟨⟨by decide +kernel, by decide +kernel⟩, List.mem_of_getElem? (i := 14) (by decide +kernel), List.mem_of_getElem? (i := 317) (by decide +kernel), List.mem_of_getElem? (i := 318) (by decide +kernel)⟩
theorem lw_p21 : lw_okq (⟨"CountedObjects", "letGo", "(II)V"⟩, 8) := ⟨⟨by decide +kernel, by decide +kernel⟩, List.mem_of_getElem? (i := 14) (by decide +kernel), List.mem_of_getElem? (i := 321) (by decide +kernel), List.mem_of_getElem? (i := 322) (by decide +kernel)⟩
theorem lw_p22 : lw_okq (⟨"CountedObjects", "hasField", "(II)Z"⟩, 8) := ⟨⟨by decide +kernel, by decide +kernel⟩, List.mem_of_getElem? (i := 14) (by decide +kernel), List.mem_of_getElem? (i := 346) (by decide +kernel), List.mem_of_getElem? (i := 347) (by decide +kernel)⟩
theorem lw_p23 : lw_okq (⟨"CountedObjects", "fieldWord", "(II)I"⟩, 8) := ⟨⟨by decide +kernel, by decide +kernel⟩, List.mem_of_getElem? (i := 14) (by decide +kernel), List.mem_of_getElem? (i := 350) (by decide +kernel), List.mem_of_getElem? (i := 351) (by decide +kernel)⟩
theorem lw_p24 : lw_okq (⟨"CountedObjectsModel", "give", "(II)V"⟩, 18) := ⟨⟨by decide +kernel, by decide +kernel⟩, List.mem_of_getElem? (i := 382) (by decide +kernel), List.mem_of_getElem? (i := 388) (by decide +kernel), List.mem_of_getElem? (i := 389) (by decide +kernel)⟩
theorem lw_p25 : lw_okq (⟨"CountedObjectsModel", "isValue", "(I)Z"⟩, 18) := ⟨⟨by decide +kernel, by decide +kernel⟩, List.mem_of_getElem? (i := 382) (by decide +kernel), List.mem_of_getElem? (i := 458) (by decide +kernel), List.mem_of_getElem? (i := 459) (by decide +kernel)⟩
theorem lw_p26 : lw_okq (⟨"CountedObjectsModel", "isObject", "(I)Z"⟩, 18) := ⟨⟨by decide +kernel, by decide +kernel⟩, List.mem_of_getElem? (i := 382) (by decide +kernel), List.mem_of_getElem? (i := 465) (by decide +kernel), List.mem_of_getElem? (i := 466) (by decide +kernel)⟩
theorem lw_p27 : lw_okq (⟨"CountedObjectsModel", "freeEntry", "()I"⟩, 18) := ⟨⟨by decide +kernel, by decide +kernel⟩, List.mem_of_getElem? (i := 382) (by decide +kernel), List.mem_of_getElem? (i := 469) (by decide +kernel), List.mem_of_getElem? (i := 470) (by decide +kernel)⟩
theorem lw_p28 : lw_okq (⟨"CountedObjectsModel", "gather", "(I)I"⟩, 18) := ⟨⟨by decide +kernel, by decide +kernel⟩, List.mem_of_getElem? (i := 382) (by decide +kernel), List.mem_of_getElem? (i := 473) (by decide +kernel), List.mem_of_getElem? (i := 474) (by decide +kernel)⟩
theorem lw_p29 : lw_okq (⟨"CountedObjectsModel", "reach", "(I)Z"⟩, 18) := ⟨⟨by decide +kernel, by decide +kernel⟩, List.mem_of_getElem? (i := 382) (by decide +kernel), List.mem_of_getElem? (i := 477) (by decide +kernel), List.mem_of_getElem? (i := 478) (by decide +kernel)⟩
theorem lw_p30 : lw_okq (⟨"CountedObjectsModel", "spread", "(I)Z"⟩, 18) := ⟨⟨by decide +kernel, by decide +kernel⟩, List.mem_of_getElem? (i := 382) (by decide +kernel), List.mem_of_getElem? (i := 481) (by decide +kernel), List.mem_of_getElem? (i := 482) (by decide +kernel)⟩
theorem lw_p31 : lw_okq (⟨"CountedObjectsModel", "takeAway", "(I)V"⟩, 18) := ⟨⟨by decide +kernel, by decide +kernel⟩, List.mem_of_getElem? (i := 382) (by decide +kernel), List.mem_of_getElem? (i := 485) (by decide +kernel), List.mem_of_getElem? (i := 486) (by decide +kernel)⟩
def lw_privs_2 : List (MethodName × Nat) := [(⟨"CountedObjects$FreeChunks", "bestFor", "(I)I"⟩, 3), (⟨"CountedObjects$FreeChunks", "remove", "(I)V"⟩, 3), (⟨"CountedObjects", "makeObject", "(IIII)V"⟩, 8), (⟨"CountedObjects", "replaceRegister", "(II)I"⟩, 8), (⟨"CountedObjects", "dropReference", "(II)V"⟩, 8), (⟨"CountedObjects", "letGo", "(II)V"⟩, 8), (⟨"CountedObjects", "hasField", "(II)Z"⟩, 8), (⟨"CountedObjects", "fieldWord", "(II)I"⟩, 8), (⟨"CountedObjectsModel", "give", "(II)V"⟩, 18), (⟨"CountedObjectsModel", "isValue", "(I)Z"⟩, 18), (⟨"CountedObjectsModel", "isObject", "(I)Z"⟩, 18), (⟨"CountedObjectsModel", "freeEntry", "()I"⟩, 18), (⟨"CountedObjectsModel", "gather", "(I)I"⟩, 18), (⟨"CountedObjectsModel", "reach", "(I)Z"⟩, 18), (⟨"CountedObjectsModel", "spread", "(I)Z"⟩, 18), (⟨"CountedObjectsModel", "takeAway", "(I)V"⟩, 18)]
theorem lw_r2 : ∀ q ∈ lw_privs_2, lw_okq q := List.forall_mem_cons.mpr ⟨lw_p16, List.forall_mem_cons.mpr ⟨lw_p17, List.forall_mem_cons.mpr ⟨lw_p18, List.forall_mem_cons.mpr ⟨lw_p19, List.forall_mem_cons.mpr ⟨lw_p20, List.forall_mem_cons.mpr ⟨lw_p21, List.forall_mem_cons.mpr ⟨lw_p22, List.forall_mem_cons.mpr ⟨lw_p23, List.forall_mem_cons.mpr ⟨lw_p24, List.forall_mem_cons.mpr ⟨lw_p25, List.forall_mem_cons.mpr ⟨lw_p26, List.forall_mem_cons.mpr ⟨lw_p27, List.forall_mem_cons.mpr ⟨lw_p28, List.forall_mem_cons.mpr ⟨lw_p29, List.forall_mem_cons.mpr ⟨lw_p30, List.forall_mem_cons.mpr ⟨lw_p31, fun _ h => absurd h List.not_mem_nil⟩⟩⟩⟩⟩⟩⟩⟩⟩⟩⟩⟩⟩⟩⟩⟩
theorem lw_p32 : lw_okq (⟨"CountedObjectsModel", "comes", "(I)V"⟩, 18) := ⟨⟨by decide +kernel, by decide +kernel⟩, List.mem_of_getElem? (i := 382) (by decide +kernel), List.mem_of_getElem? (i := 489) (by decide +kernel), List.mem_of_getElem? (i := 490) (by decide +kernel)⟩
theorem lw_p33 : lw_okq (⟨"CountedObjectsModel", "place", "(I)I"⟩, 18) := ⟨⟨by decide +kernel, by decide +kernel⟩, List.mem_of_getElem? (i := 382) (by decide +kernel), List.mem_of_getElem? (i := 493) (by decide +kernel), List.mem_of_getElem? (i := 494) (by decide +kernel)⟩
theorem lw_p34 : lw_okq (⟨"CountedObjectsModel", "fitting", "(I)I"⟩, 18) := ⟨⟨by decide +kernel, by decide +kernel⟩, List.mem_of_getElem? (i := 382) (by decide +kernel), List.mem_of_getElem? (i := 497) (by decide +kernel), List.mem_of_getElem? (i := 498) (by decide +kernel)⟩
theorem lw_p35 : lw_okq (⟨"CountedObjectsModel", "freeWords", "()I"⟩, 18) := ⟨⟨by decide +kernel, by decide +kernel⟩, List.mem_of_getElem? (i := 382) (by decide +kernel), List.mem_of_getElem? (i := 501) (by decide +kernel), List.mem_of_getElem? (i := 502) (by decide +kernel)⟩
theorem lw_p36 : lw_okq (⟨"CountedObjectsModel", "pack", "()I"⟩, 18) := ⟨⟨by decide +kernel, by decide +kernel⟩, List.mem_of_getElem? (i := 382) (by decide +kernel), List.mem_of_getElem? (i := 505) (by decide +kernel), List.mem_of_getElem? (i := 506) (by decide +kernel)⟩
theorem lw_p37 : lw_okq (⟨"CountedObjectsModel", "replace", "(II)I"⟩, 18) := ⟨⟨by decide +kernel, by decide +kernel⟩, List.mem_of_getElem? (i := 382) (by decide +kernel), List.mem_of_getElem? (i := 509) (by decide +kernel), List.mem_of_getElem? (i := 510) (by decide +kernel)⟩
theorem lw_p38 : lw_okq (⟨"CountedObjectsModel", "leaves", "(I)V"⟩, 18) := ⟨⟨by decide +kernel, by decide +kernel⟩, List.mem_of_getElem? (i := 382) (by decide +kernel), List.mem_of_getElem? (i := 513) (by decide +kernel), List.mem_of_getElem? (i := 514) (by decide +kernel)⟩
theorem lw_p39 : lw_okq (⟨"CountedObjectsModel", "less", "(I)V"⟩, 18) := ⟨⟨by decide +kernel, by decide +kernel⟩, List.mem_of_getElem? (i := 382) (by decide +kernel), List.mem_of_getElem? (i := 517) (by decide +kernel), List.mem_of_getElem? (i := 518) (by decide +kernel)⟩
theorem lw_p40 : lw_okq (⟨"CountedObjectsModel", "hasField", "(II)Z"⟩, 18) := ⟨⟨by decide +kernel, by decide +kernel⟩, List.mem_of_getElem? (i := 382) (by decide +kernel), List.mem_of_getElem? (i := 533) (by decide +kernel), List.mem_of_getElem? (i := 534) (by decide +kernel)⟩
def lw_privs_3 : List (MethodName × Nat) := [(⟨"CountedObjectsModel", "comes", "(I)V"⟩, 18), (⟨"CountedObjectsModel", "place", "(I)I"⟩, 18), (⟨"CountedObjectsModel", "fitting", "(I)I"⟩, 18), (⟨"CountedObjectsModel", "freeWords", "()I"⟩, 18), (⟨"CountedObjectsModel", "pack", "()I"⟩, 18), (⟨"CountedObjectsModel", "replace", "(II)I"⟩, 18), (⟨"CountedObjectsModel", "leaves", "(I)V"⟩, 18), (⟨"CountedObjectsModel", "less", "(I)V"⟩, 18), (⟨"CountedObjectsModel", "hasField", "(II)Z"⟩, 18)]
theorem lw_r3 : ∀ q ∈ lw_privs_3, lw_okq q := List.forall_mem_cons.mpr ⟨lw_p32, List.forall_mem_cons.mpr ⟨lw_p33, List.forall_mem_cons.mpr ⟨lw_p34, List.forall_mem_cons.mpr ⟨lw_p35, List.forall_mem_cons.mpr ⟨lw_p36, List.forall_mem_cons.mpr ⟨lw_p37, List.forall_mem_cons.mpr ⟨lw_p38, List.forall_mem_cons.mpr ⟨lw_p39, List.forall_mem_cons.mpr ⟨lw_p40, fun _ h => absurd h List.not_mem_nil⟩⟩⟩⟩⟩⟩⟩⟩⟩
def lw_privs : List (MethodName × Nat) := lw_privs_1 ++ (lw_privs_2 ++ (lw_privs_3))
def lw_tbl : List Cond := k2_sels lw_privs ++ tables_1
theorem lw_privs_ok : ∀ q ∈ lw_privs, lw_okq q := by
  show ∀ q ∈ lw_privs_1 ++ (lw_privs_2 ++ (lw_privs_3)), lw_okq q
  exact List.forall_mem_append.mpr ⟨lw_r1, List.forall_mem_append.mpr ⟨lw_r2, lw_r3⟩⟩
end
section
/-! Names: the classes, their fields, their methods, the words of the tables by their places. -/
def RX : String := "CountedObjects"
def RF : String := "CountedObjects$FreeChunks"
def RM : String := "CountedObjectsModel"
def RL : String := "CountedObjectsLaw"
def TX : u_T := fun k => match k with
  | 0 => ("CountedObjects", "words", "[I", true)
  | 1 => ("CountedObjects", "addresses", "[I", true)
  | 2 => ("CountedObjects", "counts", "[I", true)
  | 3 => ("CountedObjects", "registers", "[I", true)
  | 4 => ("CountedObjects", "freeChunks", "LCountedObjects$FreeChunks;", true)
  | 5 => ("CountedObjects", "isReached", "[Z", true)
  | 6 => ("CountedObjects", "reachedEntries", "[I", true)
  | _ => ("CountedObjects", "reachedHeld", "I", false)
def tyX : Nat → FieldType := fun k => match k with
  | 0 => .array .int
  | 1 => .array .int
  | 2 => .array .int
  | 3 => .array .int
  | 4 => .object "CountedObjects$FreeChunks"
  | 5 => .array .boolean
  | 6 => .array .int
  | _ => .int
theorem nmX : ∀ a, a < 8 → ∀ b, b < 8 → a ≠ b → (TX a).2.1 ≠ (TX b).2.1 := by decide +kernel
theorem tyX_ok : ∀ k, k < 8 → parseFieldDescriptor (TX k).2.2.1 = some (tyX k) := by decide +kernel
def TF : u_T := fun k => match k with
  | 0 => ("CountedObjects$FreeChunks", "starts", "[I", true)
  | 1 => ("CountedObjects$FreeChunks", "sizes", "[I", true)
  | _ => ("CountedObjects$FreeChunks", "held", "I", false)
def tyF : Nat → FieldType := fun k => match k with
  | 0 => .array .int
  | 1 => .array .int
  | _ => .int
theorem nmF : ∀ a, a < 3 → ∀ b, b < 3 → a ≠ b → (TF a).2.1 ≠ (TF b).2.1 := by decide +kernel
theorem tyF_ok : ∀ k, k < 3 → parseFieldDescriptor (TF k).2.2.1 = some (tyF k) := by decide +kernel
def TM : u_T := fun k => match k with
  | 0 => ("CountedObjectsModel", "thrown", "I", false)
  | 1 => ("CountedObjectsModel", "words", "I", true)
  | 2 => ("CountedObjectsModel", "entries", "I", true)
  | 3 => ("CountedObjectsModel", "registers", "[I", true)
  | 4 => ("CountedObjectsModel", "lives", "[Z", true)
  | 5 => ("CountedObjectsModel", "addresses", "[I", true)
  | 6 => ("CountedObjectsModel", "sizes", "[I", true)
  | 7 => ("CountedObjectsModel", "counts", "[I", true)
  | 8 => ("CountedObjectsModel", "word", "[I", true)
  | 9 => ("CountedObjectsModel", "frees", "I", false)
  | 10 => ("CountedObjectsModel", "begins", "[I", true)
  | 11 => ("CountedObjectsModel", "lengths", "[I", true)
  | 12 => ("CountedObjectsModel", "came", "[I", true)
  | 13 => ("CountedObjectsModel", "clock", "I", false)
  | 14 => ("CountedObjectsModel", "going", "I", false)
  | 15 => ("CountedObjectsModel", "goes", "[I", true)
  | 16 => ("CountedObjectsModel", "next", "[I", true)
  | _ => ("CountedObjectsModel", "reached", "[Z", true)
def tyM : Nat → FieldType := fun k => match k with
  | 0 => .int
  | 1 => .int
  | 2 => .int
  | 3 => .array .int
  | 4 => .array .boolean
  | 5 => .array .int
  | 6 => .array .int
  | 7 => .array .int
  | 8 => .array .int
  | 9 => .int
  | 10 => .array .int
  | 11 => .array .int
  | 12 => .array .int
  | 13 => .int
  | 14 => .int
  | 15 => .array .int
  | 16 => .array .int
  | _ => .array .boolean
theorem nmM : ∀ a, a < 18 → ∀ b, b < 18 → a ≠ b → (TM a).2.1 ≠ (TM b).2.1 := by decide +kernel
theorem tyM_ok : ∀ k, k < 18 → parseFieldDescriptor (TM k).2.2.1 = some (tyM k) := by decide +kernel
abbrev cX_init : ByteArray := prog_1_method_1_code
def yX_init : MethodName := ⟨RX, "<init>", "(II)V"⟩
abbrev cF_init : ByteArray := prog_2_method_1_code
def yF_init : MethodName := ⟨RF, "<init>", "(I)V"⟩
abbrev cX_collect : ByteArray := prog_1_method_10_code
def yX_collect : MethodName := ⟨RX, "collect", "()I"⟩
abbrev cX_takeUnreached : ByteArray := prog_1_method_36_code
def yX_takeUnreached : MethodName := ⟨RX, "takeUnreached", "(I)I"⟩
abbrev cX_findReached : ByteArray := prog_1_method_37_code
def yX_findReached : MethodName := ⟨RX, "findReached", "(I)V"⟩
abbrev cX_reach : ByteArray := prog_1_method_38_code
def yX_reach : MethodName := ⟨RX, "reach", "(I)V"⟩
abbrev cX_isObject : ByteArray := prog_1_method_20_code
def yX_isObject : MethodName := ⟨RX, "isObject", "(I)Z"⟩
abbrev cX_isUsed : ByteArray := prog_1_method_19_code
def yX_isUsed : MethodName := ⟨RX, "isUsed", "(I)Z"⟩
abbrev cX_wordsOf : ByteArray := prog_1_method_24_code
def yX_wordsOf : MethodName := ⟨RX, "wordsOf", "(I)I"⟩
abbrev cX_freeEntry : ByteArray := prog_1_method_31_code
def yX_freeEntry : MethodName := ⟨RX, "freeEntry", "(I)V"⟩
abbrev cF_add : ByteArray := prog_2_method_2_code
def yF_add : MethodName := ⟨RF, "add", "(II)V"⟩
abbrev cX_countAnew : ByteArray := prog_1_method_39_code
def yX_countAnew : MethodName := ⟨RX, "countAnew", "()V"⟩
abbrev cX_addReference : ByteArray := prog_1_method_28_code
def yX_addReference : MethodName := ⟨RX, "addReference", "(I)V"⟩
abbrev cX_compact : ByteArray := prog_1_method_11_code
def yX_compact : MethodName := ⟨RX, "compact", "()I"⟩
abbrev cX_moveTogether : ByteArray := prog_1_method_34_code
def yX_moveTogether : MethodName := ⟨RX, "moveTogether", "()I"⟩
abbrev cX_lowestFrom : ByteArray := prog_1_method_35_code
def yX_lowestFrom : MethodName := ⟨RX, "lowestFrom", "(I)I"⟩
abbrev cF_clear : ByteArray := prog_2_method_3_code
def yF_clear : MethodName := ⟨RF, "clear", "()V"⟩
abbrev cX_exists : ByteArray := prog_1_method_12_code
def yX_exists : MethodName := ⟨RX, "exists", "(I)Z"⟩
abbrev cX_count : ByteArray := prog_1_method_13_code
def yX_count : MethodName := ⟨RX, "count", "(I)I"⟩
abbrev cX_address : ByteArray := prog_1_method_14_code
def yX_address : MethodName := ⟨RX, "address", "(I)I"⟩
abbrev cX_chunks : ByteArray := prog_1_method_15_code
def yX_chunks : MethodName := ⟨RX, "chunks", "(I)I"⟩
abbrev cF_ofSize : ByteArray := prog_2_method_7_code
def yF_ofSize : MethodName := ⟨RF, "ofSize", "(I)I"⟩
abbrev cX_free : ByteArray := prog_1_method_16_code
def yX_free : MethodName := ⟨RX, "free", "()I"⟩
abbrev cF_allWords : ByteArray := prog_2_method_8_code
def yF_allWords : MethodName := ⟨RF, "allWords", "()I"⟩
abbrev cX_objects : ByteArray := prog_1_method_17_code
def yX_objects : MethodName := ⟨RX, "objects", "()I"⟩
abbrev cL_cell : ByteArray := method_2_code
def yL_cell : MethodName := ⟨RL, "cell", "([II)I"⟩
abbrev cL_instantiate : ByteArray := method_3_code
def yL_instantiate : MethodName := ⟨RL, "instantiate", "(LCountedObjects;III[J)I"⟩
abbrev cX_instantiate : ByteArray := prog_1_method_2_code
def yX_instantiate : MethodName := ⟨RX, "instantiate", "(III)I"⟩
abbrev cX_isRegister : ByteArray := prog_1_method_18_code
def yX_isRegister : MethodName := ⟨RX, "isRegister", "(I)Z"⟩
abbrev cX_isValue : ByteArray := prog_1_method_21_code
def yX_isValue : MethodName := ⟨RX, "isValue", "(I)Z"⟩
abbrev cX_findRoom : ByteArray := prog_1_method_32_code
def yX_findRoom : MethodName := ⟨RX, "findRoom", "(II)I"⟩
abbrev cX_leastFreeEntry : ByteArray := prog_1_method_25_code
def yX_leastFreeEntry : MethodName := ⟨RX, "leastFreeEntry", "()I"⟩
abbrev cX_place : ByteArray := prog_1_method_33_code
def yX_place : MethodName := ⟨RX, "place", "(I)I"⟩
abbrev cF_take : ByteArray := prog_2_method_4_code
def yF_take : MethodName := ⟨RF, "take", "(I)I"⟩
abbrev cF_bestFor : ByteArray := prog_2_method_5_code
def yF_bestFor : MethodName := ⟨RF, "bestFor", "(I)I"⟩
abbrev cF_remove : ByteArray := prog_2_method_6_code
def yF_remove : MethodName := ⟨RF, "remove", "(I)V"⟩
abbrev cX_makeObject : ByteArray := prog_1_method_26_code
def yX_makeObject : MethodName := ⟨RX, "makeObject", "(IIII)V"⟩
abbrev cX_replaceRegister : ByteArray := prog_1_method_27_code
def yX_replaceRegister : MethodName := ⟨RX, "replaceRegister", "(II)I"⟩
abbrev cX_dropReference : ByteArray := prog_1_method_29_code
def yX_dropReference : MethodName := ⟨RX, "dropReference", "(II)V"⟩
abbrev cX_letGo : ByteArray := prog_1_method_30_code
def yX_letGo : MethodName := ⟨RX, "letGo", "(II)V"⟩
abbrev cL_set : ByteArray := method_4_code
def yL_set : MethodName := ⟨RL, "set", "(LCountedObjects;II[J)I"⟩
abbrev cX_set : ByteArray := prog_1_method_3_code
def yX_set : MethodName := ⟨RX, "set", "(II)I"⟩
abbrev cL_register : ByteArray := method_5_code
def yL_register : MethodName := ⟨RL, "register", "(LCountedObjects;I[J)I"⟩
abbrev cX_register : ByteArray := prog_1_method_4_code
def yX_register : MethodName := ⟨RX, "register", "(I)I"⟩
abbrev cL_fetch : ByteArray := method_6_code
def yL_fetch : MethodName := ⟨RL, "fetch", "(LCountedObjects;II[J)I"⟩
abbrev cX_fetch : ByteArray := prog_1_method_5_code
def yX_fetch : MethodName := ⟨RX, "fetch", "(II)I"⟩
abbrev cX_hasField : ByteArray := prog_1_method_22_code
def yX_hasField : MethodName := ⟨RX, "hasField", "(II)Z"⟩
abbrev cX_fieldWord : ByteArray := prog_1_method_23_code
def yX_fieldWord : MethodName := ⟨RX, "fieldWord", "(II)I"⟩
abbrev cL_store : ByteArray := method_7_code
def yL_store : MethodName := ⟨RL, "store", "(LCountedObjects;III[J)I"⟩
abbrev cX_store : ByteArray := prog_1_method_6_code
def yX_store : MethodName := ⟨RX, "store", "(III)I"⟩
abbrev cL_type : ByteArray := method_8_code
def yL_type : MethodName := ⟨RL, "type", "(LCountedObjects;I[J)I"⟩
abbrev cX_type : ByteArray := prog_1_method_7_code
def yX_type : MethodName := ⟨RX, "type", "(I)I"⟩
abbrev cL_fields : ByteArray := method_9_code
def yL_fields : MethodName := ⟨RL, "fields", "(LCountedObjects;I[J)I"⟩
abbrev cX_fields : ByteArray := prog_1_method_8_code
def yX_fields : MethodName := ⟨RX, "fields", "(I)I"⟩
abbrev cL_become : ByteArray := method_10_code
def yL_become : MethodName := ⟨RL, "become", "(LCountedObjects;II)I"⟩
abbrev cX_become : ByteArray := prog_1_method_9_code
def yX_become : MethodName := ⟨RX, "become", "(II)V"⟩
abbrev cM_init : ByteArray := prog_4_method_1_code
def yM_init : MethodName := ⟨RM, "<init>", "(II)V"⟩
abbrev cM_give : ByteArray := prog_4_method_7_code
def yM_give : MethodName := ⟨RM, "give", "(II)V"⟩
abbrev cM_thrown : ByteArray := prog_4_method_2_code
def yM_thrown : MethodName := ⟨RM, "thrown", "()I"⟩
abbrev cM_instantiate : ByteArray := prog_4_method_21_code
def yM_instantiate : MethodName := ⟨RM, "instantiate", "(III)I"⟩
abbrev cM_isRegister : ByteArray := prog_4_method_6_code
def yM_isRegister : MethodName := ⟨RM, "isRegister", "(I)Z"⟩
abbrev cM_isValue : ByteArray := prog_4_method_5_code
def yM_isValue : MethodName := ⟨RM, "isValue", "(I)Z"⟩
abbrev cM_leads : ByteArray := prog_4_method_3_code
def yM_leads : MethodName := ⟨RM, "leads", "(I)Z"⟩
abbrev cM_isObject : ByteArray := prog_4_method_4_code
def yM_isObject : MethodName := ⟨RM, "isObject", "(I)Z"⟩
abbrev cM_freeEntry : ByteArray := prog_4_method_20_code
def yM_freeEntry : MethodName := ⟨RM, "freeEntry", "()I"⟩
abbrev cM_gather : ByteArray := prog_4_method_19_code
def yM_gather : MethodName := ⟨RM, "gather", "(I)I"⟩
abbrev cM_reach : ByteArray := prog_4_method_17_code
def yM_reach : MethodName := ⟨RM, "reach", "(I)Z"⟩
abbrev cM_spread : ByteArray := prog_4_method_18_code
def yM_spread : MethodName := ⟨RM, "spread", "(I)Z"⟩
abbrev cM_takeAway : ByteArray := prog_4_method_14_code
def yM_takeAway : MethodName := ⟨RM, "takeAway", "(I)V"⟩
abbrev cM_comes : ByteArray := prog_4_method_12_code
def yM_comes : MethodName := ⟨RM, "comes", "(I)V"⟩
abbrev cM_place : ByteArray := prog_4_method_11_code
def yM_place : MethodName := ⟨RM, "place", "(I)I"⟩
abbrev cM_fitting : ByteArray := prog_4_method_9_code
def yM_fitting : MethodName := ⟨RM, "fitting", "(I)I"⟩
abbrev cM_freeWords : ByteArray := prog_4_method_8_code
def yM_freeWords : MethodName := ⟨RM, "freeWords", "()I"⟩
abbrev cM_pack : ByteArray := prog_4_method_10_code
def yM_pack : MethodName := ⟨RM, "pack", "()I"⟩
abbrev cM_replace : ByteArray := prog_4_method_16_code
def yM_replace : MethodName := ⟨RM, "replace", "(II)I"⟩
abbrev cM_leaves : ByteArray := prog_4_method_15_code
def yM_leaves : MethodName := ⟨RM, "leaves", "(I)V"⟩
abbrev cM_less : ByteArray := prog_4_method_13_code
def yM_less : MethodName := ⟨RM, "less", "(I)V"⟩
abbrev cM_set : ByteArray := prog_4_method_22_code
def yM_set : MethodName := ⟨RM, "set", "(II)I"⟩
abbrev cM_register : ByteArray := prog_4_method_23_code
def yM_register : MethodName := ⟨RM, "register", "(I)I"⟩
abbrev cM_fetch : ByteArray := prog_4_method_25_code
def yM_fetch : MethodName := ⟨RM, "fetch", "(II)I"⟩
abbrev cM_hasField : ByteArray := prog_4_method_24_code
def yM_hasField : MethodName := ⟨RM, "hasField", "(II)Z"⟩
abbrev cM_store : ByteArray := prog_4_method_26_code
def yM_store : MethodName := ⟨RM, "store", "(III)I"⟩
abbrev cM_type : ByteArray := prog_4_method_27_code
def yM_type : MethodName := ⟨RM, "type", "(I)I"⟩
abbrev cM_fields : ByteArray := prog_4_method_28_code
def yM_fields : MethodName := ⟨RM, "fields", "(I)I"⟩
abbrev cM_become : ByteArray := prog_4_method_29_code
def yM_become : MethodName := ⟨RM, "become", "(II)V"⟩
abbrev cM_collect : ByteArray := prog_4_method_30_code
def yM_collect : MethodName := ⟨RM, "collect", "()I"⟩
abbrev cM_compact : ByteArray := prog_4_method_31_code
def yM_compact : MethodName := ⟨RM, "compact", "()I"⟩
abbrev cM_exists : ByteArray := prog_4_method_32_code
def yM_exists : MethodName := ⟨RM, "exists", "(I)Z"⟩
abbrev cM_count : ByteArray := prog_4_method_33_code
def yM_count : MethodName := ⟨RM, "count", "(I)I"⟩
abbrev cM_address : ByteArray := prog_4_method_34_code
def yM_address : MethodName := ⟨RM, "address", "(I)I"⟩
abbrev cM_chunks : ByteArray := prog_4_method_35_code
def yM_chunks : MethodName := ⟨RM, "chunks", "(I)I"⟩
abbrev cM_free : ByteArray := prog_4_method_36_code
def yM_free : MethodName := ⟨RM, "free", "()I"⟩
abbrev cM_objects : ByteArray := prog_4_method_37_code
def yM_objects : MethodName := ⟨RM, "objects", "()I"⟩
abbrev gx_cl : List vw_C := [(RX, TX, 8), (RF, TF, 3), (RM, TM, 18)]
/-- the good words of the tables -/
def wsA : List Cond := lw_tbl.filter goodWord
theorem wsA_good : ∀ w ∈ wsA, goodWord w = true := fun w h => (List.mem_filter.mp h).2
theorem wsA_tbl : ∀ w ∈ wsA, w ∈ lw_tbl := fun w h => (List.mem_filter.mp h).1
theorem wsA_in {w : Cond} {i : Nat} (h : tables_1[i]? = some w) (hg : goodWord w = true) : w ∈ wsA := List.mem_filter.mpr ⟨List.mem_append_right _ (List.mem_of_getElem? h), hg⟩
theorem wsA_sel {w : Cond} (h : w ∈ k2_sels lw_privs) (hg : goodWord w = true) : w ∈ wsA := List.mem_filter.mpr ⟨List.mem_append_left _ h, hg⟩
theorem in_CountedObjectsLaw : Cond.initialized RL ∈ wsA := wsA_in (i := 0) (by decide +kernel) (by decide +kernel)
theorem in_CountedObjects : Cond.initialized RX ∈ wsA := wsA_in (i := 1) (by decide +kernel) (by decide +kernel)
theorem in_java_lang_Math : Cond.initialized "java/lang/Math" ∈ wsA := wsA_in (i := 2) (by decide +kernel) (by decide +kernel)
theorem in_CountedObjects_FreeChunks : Cond.initialized RF ∈ wsA := wsA_in (i := 3) (by decide +kernel) (by decide +kernel)
theorem in_java_util_Arrays : Cond.initialized "java/util/Arrays" ∈ wsA := wsA_in (i := 4) (by decide +kernel) (by decide +kernel)
theorem in_CountedObjectsModel : Cond.initialized RM ∈ wsA := wsA_in (i := 5) (by decide +kernel) (by decide +kernel)
theorem in_java_lang_Throwable : Cond.initialized "java/lang/Throwable" ∈ wsA := wsA_in (i := 6) (by decide +kernel) (by decide +kernel)
theorem in_java_lang_Exception : Cond.initialized "java/lang/Exception" ∈ wsA := wsA_in (i := 7) (by decide +kernel) (by decide +kernel)
theorem in_java_lang_RuntimeException : Cond.initialized "java/lang/RuntimeException" ∈ wsA := wsA_in (i := 8) (by decide +kernel) (by decide +kernel)
theorem in_java_lang_IndexOutOfBoundsException : Cond.initialized "java/lang/IndexOutOfBoundsException" ∈ wsA := wsA_in (i := 9) (by decide +kernel) (by decide +kernel)
theorem in_java_lang_IllegalArgumentException : Cond.initialized "java/lang/IllegalArgumentException" ∈ wsA := wsA_in (i := 10) (by decide +kernel) (by decide +kernel)
theorem in_java_lang_System : Cond.initialized "java/lang/System" ∈ wsA := wsA_in (i := 11) (by decide +kernel) (by decide +kernel)
theorem in_java_lang_IllegalStateException : Cond.initialized "java/lang/IllegalStateException" ∈ wsA := wsA_in (i := 12) (by decide +kernel) (by decide +kernel)
theorem ln_L_49 : Cond.methodLink RL 49 yX_init ∈ wsA := wsA_in (i := 15) (by decide +kernel) (by decide +kernel)
theorem im_X_init : Cond.instanceMethod yX_init ∈ wsA := wsA_in (i := 16) (by decide +kernel) (by decide +kernel)
theorem cd_X_init : Cond.code yX_init cX_init 5 none ∈ wsA := wsA_in (i := 17) (by decide +kernel) (by decide +kernel)
theorem ln_X_33 : Cond.methodLink RX 33 yF_init ∈ wsA := wsA_in (i := 29) (by decide +kernel) (by decide +kernel)
theorem im_F_init : Cond.instanceMethod yF_init ∈ wsA := wsA_in (i := 30) (by decide +kernel) (by decide +kernel)
theorem cd_F_init : Cond.code yF_init cF_init 2 none ∈ wsA := wsA_in (i := 31) (by decide +kernel) (by decide +kernel)
theorem fl_F_9 : Cond.fieldLink RF 9 "CountedObjects$FreeChunks" "starts" "[I" ∈ wsA := wsA_in (i := 33) (by decide +kernel) (by decide +kernel)
theorem fl_F_15 : Cond.fieldLink RF 15 "CountedObjects$FreeChunks" "sizes" "[I" ∈ wsA := wsA_in (i := 34) (by decide +kernel) (by decide +kernel)
theorem fl_F_18 : Cond.fieldLink RF 18 "CountedObjects$FreeChunks" "held" "I" ∈ wsA := wsA_in (i := 35) (by decide +kernel) (by decide +kernel)
theorem la_F_starts : Cond.laysFinal RF "CountedObjects$FreeChunks" "starts" "[I" ∈ wsA := wsA_in (i := 37) (by decide +kernel) (by decide +kernel)
theorem la_F_sizes : Cond.laysFinal RF "CountedObjects$FreeChunks" "sizes" "[I" ∈ wsA := wsA_in (i := 39) (by decide +kernel) (by decide +kernel)
theorem la_F_held : Cond.lays RF "CountedObjects$FreeChunks" "held" "I" ∈ wsA := wsA_in (i := 41) (by decide +kernel) (by decide +kernel)
theorem ac_int : Cond.arrayClass .int ∈ wsA := wsA_in (i := 44) (by decide +kernel) (by decide +kernel)
theorem fl_X_18 : Cond.fieldLink RX 18 "CountedObjects" "words" "[I" ∈ wsA := wsA_in (i := 48) (by decide +kernel) (by decide +kernel)
theorem fl_X_22 : Cond.fieldLink RX 22 "CountedObjects" "addresses" "[I" ∈ wsA := wsA_in (i := 49) (by decide +kernel) (by decide +kernel)
theorem fl_X_25 : Cond.fieldLink RX 25 "CountedObjects" "counts" "[I" ∈ wsA := wsA_in (i := 50) (by decide +kernel) (by decide +kernel)
theorem fl_X_28 : Cond.fieldLink RX 28 "CountedObjects" "registers" "[I" ∈ wsA := wsA_in (i := 51) (by decide +kernel) (by decide +kernel)
theorem fl_X_36 : Cond.fieldLink RX 36 "CountedObjects" "freeChunks" "LCountedObjects$FreeChunks;" ∈ wsA := wsA_in (i := 52) (by decide +kernel) (by decide +kernel)
theorem fl_X_40 : Cond.fieldLink RX 40 "CountedObjects" "isReached" "[Z" ∈ wsA := wsA_in (i := 53) (by decide +kernel) (by decide +kernel)
theorem fl_X_44 : Cond.fieldLink RX 44 "CountedObjects" "reachedEntries" "[I" ∈ wsA := wsA_in (i := 54) (by decide +kernel) (by decide +kernel)
theorem fl_X_47 : Cond.fieldLink RX 47 "CountedObjects" "reachedHeld" "I" ∈ wsA := wsA_in (i := 55) (by decide +kernel) (by decide +kernel)
theorem la_X_words : Cond.laysFinal RX "CountedObjects" "words" "[I" ∈ wsA := wsA_in (i := 56) (by decide +kernel) (by decide +kernel)
theorem la_X_addresses : Cond.laysFinal RX "CountedObjects" "addresses" "[I" ∈ wsA := wsA_in (i := 58) (by decide +kernel) (by decide +kernel)
theorem la_X_counts : Cond.laysFinal RX "CountedObjects" "counts" "[I" ∈ wsA := wsA_in (i := 60) (by decide +kernel) (by decide +kernel)
theorem la_X_registers : Cond.laysFinal RX "CountedObjects" "registers" "[I" ∈ wsA := wsA_in (i := 62) (by decide +kernel) (by decide +kernel)
theorem la_X_freeChunks : Cond.laysFinal RX "CountedObjects" "freeChunks" "LCountedObjects$FreeChunks;" ∈ wsA := wsA_in (i := 64) (by decide +kernel) (by decide +kernel)
theorem la_X_isReached : Cond.laysFinal RX "CountedObjects" "isReached" "[Z" ∈ wsA := wsA_in (i := 66) (by decide +kernel) (by decide +kernel)
theorem la_X_reachedEntries : Cond.laysFinal RX "CountedObjects" "reachedEntries" "[I" ∈ wsA := wsA_in (i := 68) (by decide +kernel) (by decide +kernel)
theorem la_X_reachedHeld : Cond.lays RX "CountedObjects" "reachedHeld" "I" ∈ wsA := wsA_in (i := 70) (by decide +kernel) (by decide +kernel)
theorem ac_boolean : Cond.arrayClass .boolean ∈ wsA := wsA_in (i := 73) (by decide +kernel) (by decide +kernel)
theorem ln_L_86 : Cond.methodLink RL 86 yX_collect ∈ wsA := wsA_in (i := 74) (by decide +kernel) (by decide +kernel)
theorem im_X_collect : Cond.instanceMethod yX_collect ∈ wsA := wsA_in (i := 75) (by decide +kernel) (by decide +kernel)
theorem se_X_collect : Cond.selects RX yX_collect yX_collect ∈ wsA := wsA_in (i := 76) (by decide +kernel) (by decide +kernel)
theorem cd_X_collect : Cond.code yX_collect cX_collect 1 (some .int) ∈ wsA := wsA_in (i := 77) (by decide +kernel) (by decide +kernel)
theorem ln_X_104 : Cond.methodLink RX 104 yX_takeUnreached ∈ wsA := wsA_in (i := 78) (by decide +kernel) (by decide +kernel)
theorem im_X_takeUnreached : Cond.instanceMethod yX_takeUnreached ∈ wsA := wsA_in (i := 80) (by decide +kernel) (by decide +kernel)
theorem cd_X_takeUnreached : Cond.code yX_takeUnreached cX_takeUnreached 4 (some .int) ∈ wsA := wsA_in (i := 81) (by decide +kernel) (by decide +kernel)
theorem ln_X_153 : Cond.methodLink RX 153 yX_findReached ∈ wsA := wsA_in (i := 82) (by decide +kernel) (by decide +kernel)
theorem im_X_findReached : Cond.instanceMethod yX_findReached ∈ wsA := wsA_in (i := 84) (by decide +kernel) (by decide +kernel)
theorem cd_X_findReached : Cond.code yX_findReached cX_findReached 6 none ∈ wsA := wsA_in (i := 85) (by decide +kernel) (by decide +kernel)
theorem ln_X_159 : Cond.methodLink RX 159 yX_reach ∈ wsA := wsA_in (i := 86) (by decide +kernel) (by decide +kernel)
theorem im_X_reach : Cond.instanceMethod yX_reach ∈ wsA := wsA_in (i := 88) (by decide +kernel) (by decide +kernel)
theorem cd_X_reach : Cond.code yX_reach cX_reach 2 none ∈ wsA := wsA_in (i := 89) (by decide +kernel) (by decide +kernel)
theorem ln_X_87 : Cond.methodLink RX 87 yX_isObject ∈ wsA := wsA_in (i := 90) (by decide +kernel) (by decide +kernel)
theorem im_X_isObject : Cond.instanceMethod yX_isObject ∈ wsA := wsA_in (i := 92) (by decide +kernel) (by decide +kernel)
theorem cd_X_isObject : Cond.code yX_isObject cX_isObject 2 (some .boolean) ∈ wsA := wsA_in (i := 93) (by decide +kernel) (by decide +kernel)
theorem ln_X_120 : Cond.methodLink RX 120 yX_isUsed ∈ wsA := wsA_in (i := 94) (by decide +kernel) (by decide +kernel)
theorem im_X_isUsed : Cond.instanceMethod yX_isUsed ∈ wsA := wsA_in (i := 96) (by decide +kernel) (by decide +kernel)
theorem cd_X_isUsed : Cond.code yX_isUsed cX_isUsed 2 (some .boolean) ∈ wsA := wsA_in (i := 97) (by decide +kernel) (by decide +kernel)
theorem ln_X_126 : Cond.methodLink RX 126 yX_wordsOf ∈ wsA := wsA_in (i := 98) (by decide +kernel) (by decide +kernel)
theorem im_X_wordsOf : Cond.instanceMethod yX_wordsOf ∈ wsA := wsA_in (i := 100) (by decide +kernel) (by decide +kernel)
theorem cd_X_wordsOf : Cond.code yX_wordsOf cX_wordsOf 2 (some .int) ∈ wsA := wsA_in (i := 101) (by decide +kernel) (by decide +kernel)
theorem ln_X_129 : Cond.methodLink RX 129 yX_freeEntry ∈ wsA := wsA_in (i := 102) (by decide +kernel) (by decide +kernel)
theorem im_X_freeEntry : Cond.instanceMethod yX_freeEntry ∈ wsA := wsA_in (i := 104) (by decide +kernel) (by decide +kernel)
theorem cd_X_freeEntry : Cond.code yX_freeEntry cX_freeEntry 2 none ∈ wsA := wsA_in (i := 105) (by decide +kernel) (by decide +kernel)
theorem ln_X_132 : Cond.methodLink RX 132 yF_add ∈ wsA := wsA_in (i := 106) (by decide +kernel) (by decide +kernel)
theorem im_F_add : Cond.instanceMethod yF_add ∈ wsA := wsA_in (i := 107) (by decide +kernel) (by decide +kernel)
theorem se_F_add : Cond.selects RF yF_add yF_add ∈ wsA := wsA_in (i := 108) (by decide +kernel) (by decide +kernel)
theorem cd_F_add : Cond.code yF_add cF_add 3 none ∈ wsA := wsA_in (i := 109) (by decide +kernel) (by decide +kernel)
theorem ln_X_156 : Cond.methodLink RX 156 yX_countAnew ∈ wsA := wsA_in (i := 110) (by decide +kernel) (by decide +kernel)
theorem im_X_countAnew : Cond.instanceMethod yX_countAnew ∈ wsA := wsA_in (i := 112) (by decide +kernel) (by decide +kernel)
theorem cd_X_countAnew : Cond.code yX_countAnew cX_countAnew 5 none ∈ wsA := wsA_in (i := 113) (by decide +kernel) (by decide +kernel)
theorem ln_X_97 : Cond.methodLink RX 97 yX_addReference ∈ wsA := wsA_in (i := 114) (by decide +kernel) (by decide +kernel)
theorem im_X_addReference : Cond.instanceMethod yX_addReference ∈ wsA := wsA_in (i := 116) (by decide +kernel) (by decide +kernel)
theorem cd_X_addReference : Cond.code yX_addReference cX_addReference 2 none ∈ wsA := wsA_in (i := 117) (by decide +kernel) (by decide +kernel)
theorem ln_L_90 : Cond.methodLink RL 90 yX_compact ∈ wsA := wsA_in (i := 118) (by decide +kernel) (by decide +kernel)
theorem im_X_compact : Cond.instanceMethod yX_compact ∈ wsA := wsA_in (i := 119) (by decide +kernel) (by decide +kernel)
theorem se_X_compact : Cond.selects RX yX_compact yX_compact ∈ wsA := wsA_in (i := 120) (by decide +kernel) (by decide +kernel)
theorem cd_X_compact : Cond.code yX_compact cX_compact 1 (some .int) ∈ wsA := wsA_in (i := 121) (by decide +kernel) (by decide +kernel)
theorem ln_X_108 : Cond.methodLink RX 108 yX_moveTogether ∈ wsA := wsA_in (i := 122) (by decide +kernel) (by decide +kernel)
theorem im_X_moveTogether : Cond.instanceMethod yX_moveTogether ∈ wsA := wsA_in (i := 124) (by decide +kernel) (by decide +kernel)
theorem cd_X_moveTogether : Cond.code yX_moveTogether cX_moveTogether 6 (some .int) ∈ wsA := wsA_in (i := 125) (by decide +kernel) (by decide +kernel)
theorem ln_X_141 : Cond.methodLink RX 141 yX_lowestFrom ∈ wsA := wsA_in (i := 126) (by decide +kernel) (by decide +kernel)
theorem im_X_lowestFrom : Cond.instanceMethod yX_lowestFrom ∈ wsA := wsA_in (i := 128) (by decide +kernel) (by decide +kernel)
theorem cd_X_lowestFrom : Cond.code yX_lowestFrom cX_lowestFrom 5 (some .int) ∈ wsA := wsA_in (i := 129) (by decide +kernel) (by decide +kernel)
theorem ln_X_150 : Cond.methodLink RX 150 yF_clear ∈ wsA := wsA_in (i := 133) (by decide +kernel) (by decide +kernel)
theorem im_F_clear : Cond.instanceMethod yF_clear ∈ wsA := wsA_in (i := 134) (by decide +kernel) (by decide +kernel)
theorem se_F_clear : Cond.selects RF yF_clear yF_clear ∈ wsA := wsA_in (i := 135) (by decide +kernel) (by decide +kernel)
theorem cd_F_clear : Cond.code yF_clear cF_clear 1 none ∈ wsA := wsA_in (i := 136) (by decide +kernel) (by decide +kernel)
theorem ln_L_94 : Cond.methodLink RL 94 yX_exists ∈ wsA := wsA_in (i := 137) (by decide +kernel) (by decide +kernel)
theorem im_X_exists : Cond.instanceMethod yX_exists ∈ wsA := wsA_in (i := 138) (by decide +kernel) (by decide +kernel)
theorem se_X_exists : Cond.selects RX yX_exists yX_exists ∈ wsA := wsA_in (i := 139) (by decide +kernel) (by decide +kernel)
theorem cd_X_exists : Cond.code yX_exists cX_exists 2 (some .boolean) ∈ wsA := wsA_in (i := 140) (by decide +kernel) (by decide +kernel)
theorem ln_L_99 : Cond.methodLink RL 99 yX_count ∈ wsA := wsA_in (i := 141) (by decide +kernel) (by decide +kernel)
theorem im_X_count : Cond.instanceMethod yX_count ∈ wsA := wsA_in (i := 142) (by decide +kernel) (by decide +kernel)
theorem se_X_count : Cond.selects RX yX_count yX_count ∈ wsA := wsA_in (i := 143) (by decide +kernel) (by decide +kernel)
theorem cd_X_count : Cond.code yX_count cX_count 2 (some .int) ∈ wsA := wsA_in (i := 144) (by decide +kernel) (by decide +kernel)
theorem ln_L_103 : Cond.methodLink RL 103 yX_address ∈ wsA := wsA_in (i := 145) (by decide +kernel) (by decide +kernel)
theorem im_X_address : Cond.instanceMethod yX_address ∈ wsA := wsA_in (i := 146) (by decide +kernel) (by decide +kernel)
theorem se_X_address : Cond.selects RX yX_address yX_address ∈ wsA := wsA_in (i := 147) (by decide +kernel) (by decide +kernel)
theorem cd_X_address : Cond.code yX_address cX_address 2 (some .int) ∈ wsA := wsA_in (i := 148) (by decide +kernel) (by decide +kernel)
theorem ln_L_107 : Cond.methodLink RL 107 yX_chunks ∈ wsA := wsA_in (i := 149) (by decide +kernel) (by decide +kernel)
theorem im_X_chunks : Cond.instanceMethod yX_chunks ∈ wsA := wsA_in (i := 150) (by decide +kernel) (by decide +kernel)
theorem se_X_chunks : Cond.selects RX yX_chunks yX_chunks ∈ wsA := wsA_in (i := 151) (by decide +kernel) (by decide +kernel)
theorem cd_X_chunks : Cond.code yX_chunks cX_chunks 2 (some .int) ∈ wsA := wsA_in (i := 152) (by decide +kernel) (by decide +kernel)
theorem ln_X_114 : Cond.methodLink RX 114 yF_ofSize ∈ wsA := wsA_in (i := 153) (by decide +kernel) (by decide +kernel)
theorem im_F_ofSize : Cond.instanceMethod yF_ofSize ∈ wsA := wsA_in (i := 154) (by decide +kernel) (by decide +kernel)
theorem se_F_ofSize : Cond.selects RF yF_ofSize yF_ofSize ∈ wsA := wsA_in (i := 155) (by decide +kernel) (by decide +kernel)
theorem cd_F_ofSize : Cond.code yF_ofSize cF_ofSize 4 (some .int) ∈ wsA := wsA_in (i := 156) (by decide +kernel) (by decide +kernel)
theorem ln_L_111 : Cond.methodLink RL 111 yX_free ∈ wsA := wsA_in (i := 157) (by decide +kernel) (by decide +kernel)
theorem im_X_free : Cond.instanceMethod yX_free ∈ wsA := wsA_in (i := 158) (by decide +kernel) (by decide +kernel)
theorem se_X_free : Cond.selects RX yX_free yX_free ∈ wsA := wsA_in (i := 159) (by decide +kernel) (by decide +kernel)
theorem cd_X_free : Cond.code yX_free cX_free 1 (some .int) ∈ wsA := wsA_in (i := 160) (by decide +kernel) (by decide +kernel)
theorem ln_X_117 : Cond.methodLink RX 117 yF_allWords ∈ wsA := wsA_in (i := 161) (by decide +kernel) (by decide +kernel)
theorem im_F_allWords : Cond.instanceMethod yF_allWords ∈ wsA := wsA_in (i := 162) (by decide +kernel) (by decide +kernel)
theorem se_F_allWords : Cond.selects RF yF_allWords yF_allWords ∈ wsA := wsA_in (i := 163) (by decide +kernel) (by decide +kernel)
theorem cd_F_allWords : Cond.code yF_allWords cF_allWords 3 (some .int) ∈ wsA := wsA_in (i := 164) (by decide +kernel) (by decide +kernel)
theorem ln_L_115 : Cond.methodLink RL 115 yX_objects ∈ wsA := wsA_in (i := 165) (by decide +kernel) (by decide +kernel)
theorem im_X_objects : Cond.instanceMethod yX_objects ∈ wsA := wsA_in (i := 166) (by decide +kernel) (by decide +kernel)
theorem se_X_objects : Cond.selects RX yX_objects yX_objects ∈ wsA := wsA_in (i := 167) (by decide +kernel) (by decide +kernel)
theorem cd_X_objects : Cond.code yX_objects cX_objects 3 (some .int) ∈ wsA := wsA_in (i := 168) (by decide +kernel) (by decide +kernel)
theorem ln_L_43 : Cond.methodLink RL 43 yL_cell ∈ wsA := wsA_in (i := 169) (by decide +kernel) (by decide +kernel)
theorem sm_L_cell : Cond.static yL_cell ∈ wsA := wsA_in (i := 170) (by decide +kernel) (by decide +kernel)
theorem cd_L_cell : Cond.code yL_cell cL_cell 2 (some .int) ∈ wsA := wsA_in (i := 171) (by decide +kernel) (by decide +kernel)
theorem ln_L_54 : Cond.methodLink RL 54 yL_instantiate ∈ wsA := wsA_in (i := 172) (by decide +kernel) (by decide +kernel)
theorem sm_L_instantiate : Cond.static yL_instantiate ∈ wsA := wsA_in (i := 173) (by decide +kernel) (by decide +kernel)
theorem ln_L_7 : Cond.methodLink RL 7 yX_instantiate ∈ wsA := wsA_in (i := 178) (by decide +kernel) (by decide +kernel)
theorem im_X_instantiate : Cond.instanceMethod yX_instantiate ∈ wsA := wsA_in (i := 179) (by decide +kernel) (by decide +kernel)
theorem se_X_instantiate : Cond.selects RX yX_instantiate yX_instantiate ∈ wsA := wsA_in (i := 180) (by decide +kernel) (by decide +kernel)
theorem cd_X_instantiate : Cond.code yX_instantiate cX_instantiate 6 (some .int) ∈ wsA := wsA_in (i := 181) (by decide +kernel) (by decide +kernel)
theorem ln_X_57 : Cond.methodLink RX 57 yX_isRegister ∈ wsA := wsA_in (i := 182) (by decide +kernel) (by decide +kernel)
theorem sm_X_isRegister : Cond.static yX_isRegister ∈ wsA := wsA_in (i := 183) (by decide +kernel) (by decide +kernel)
theorem cd_X_isRegister : Cond.code yX_isRegister cX_isRegister 1 (some .boolean) ∈ wsA := wsA_in (i := 184) (by decide +kernel) (by decide +kernel)
theorem ln_X_64 : Cond.methodLink RX 64 yX_isValue ∈ wsA := wsA_in (i := 248) (by decide +kernel) (by decide +kernel)
theorem im_X_isValue : Cond.instanceMethod yX_isValue ∈ wsA := wsA_in (i := 250) (by decide +kernel) (by decide +kernel)
theorem cd_X_isValue : Cond.code yX_isValue cX_isValue 2 (some .boolean) ∈ wsA := wsA_in (i := 251) (by decide +kernel) (by decide +kernel)
theorem ln_X_70 : Cond.methodLink RX 70 yX_findRoom ∈ wsA := wsA_in (i := 267) (by decide +kernel) (by decide +kernel)
theorem im_X_findRoom : Cond.instanceMethod yX_findRoom ∈ wsA := wsA_in (i := 269) (by decide +kernel) (by decide +kernel)
theorem cd_X_findRoom : Cond.code yX_findRoom cX_findRoom 5 (some .int) ∈ wsA := wsA_in (i := 270) (by decide +kernel) (by decide +kernel)
theorem ln_X_73 : Cond.methodLink RX 73 yX_leastFreeEntry ∈ wsA := wsA_in (i := 271) (by decide +kernel) (by decide +kernel)
theorem im_X_leastFreeEntry : Cond.instanceMethod yX_leastFreeEntry ∈ wsA := wsA_in (i := 273) (by decide +kernel) (by decide +kernel)
theorem cd_X_leastFreeEntry : Cond.code yX_leastFreeEntry cX_leastFreeEntry 2 (some .int) ∈ wsA := wsA_in (i := 274) (by decide +kernel) (by decide +kernel)
theorem ln_X_135 : Cond.methodLink RX 135 yX_place ∈ wsA := wsA_in (i := 275) (by decide +kernel) (by decide +kernel)
theorem im_X_place : Cond.instanceMethod yX_place ∈ wsA := wsA_in (i := 277) (by decide +kernel) (by decide +kernel)
theorem cd_X_place : Cond.code yX_place cX_place 3 (some .int) ∈ wsA := wsA_in (i := 278) (by decide +kernel) (by decide +kernel)
theorem ln_X_138 : Cond.methodLink RX 138 yF_take ∈ wsA := wsA_in (i := 279) (by decide +kernel) (by decide +kernel)
theorem im_F_take : Cond.instanceMethod yF_take ∈ wsA := wsA_in (i := 280) (by decide +kernel) (by decide +kernel)
theorem se_F_take : Cond.selects RF yF_take yF_take ∈ wsA := wsA_in (i := 281) (by decide +kernel) (by decide +kernel)
theorem cd_F_take : Cond.code yF_take cF_take 5 (some .int) ∈ wsA := wsA_in (i := 282) (by decide +kernel) (by decide +kernel)
theorem ln_F_22 : Cond.methodLink RF 22 yF_bestFor ∈ wsA := wsA_in (i := 283) (by decide +kernel) (by decide +kernel)
theorem im_F_bestFor : Cond.instanceMethod yF_bestFor ∈ wsA := wsA_in (i := 285) (by decide +kernel) (by decide +kernel)
theorem cd_F_bestFor : Cond.code yF_bestFor cF_bestFor 4 (some .int) ∈ wsA := wsA_in (i := 286) (by decide +kernel) (by decide +kernel)
theorem ln_F_26 : Cond.methodLink RF 26 yF_remove ∈ wsA := wsA_in (i := 287) (by decide +kernel) (by decide +kernel)
theorem im_F_remove : Cond.instanceMethod yF_remove ∈ wsA := wsA_in (i := 289) (by decide +kernel) (by decide +kernel)
theorem cd_F_remove : Cond.code yF_remove cF_remove 2 none ∈ wsA := wsA_in (i := 290) (by decide +kernel) (by decide +kernel)
theorem ln_F_30 : Cond.methodLink RF 30 yF_add ∈ wsA := wsA_in (i := 292) (by decide +kernel) (by decide +kernel)
theorem ln_X_80 : Cond.methodLink RX 80 yX_makeObject ∈ wsA := wsA_in (i := 308) (by decide +kernel) (by decide +kernel)
theorem im_X_makeObject : Cond.instanceMethod yX_makeObject ∈ wsA := wsA_in (i := 310) (by decide +kernel) (by decide +kernel)
theorem cd_X_makeObject : Cond.code yX_makeObject cX_makeObject 6 none ∈ wsA := wsA_in (i := 311) (by decide +kernel) (by decide +kernel)
theorem ln_X_84 : Cond.methodLink RX 84 yX_replaceRegister ∈ wsA := wsA_in (i := 312) (by decide +kernel) (by decide +kernel)
theorem im_X_replaceRegister : Cond.instanceMethod yX_replaceRegister ∈ wsA := wsA_in (i := 314) (by decide +kernel) (by decide +kernel)
theorem cd_X_replaceRegister : Cond.code yX_replaceRegister cX_replaceRegister 4 (some .int) ∈ wsA := wsA_in (i := 315) (by decide +kernel) (by decide +kernel)
theorem ln_X_100 : Cond.methodLink RX 100 yX_dropReference ∈ wsA := wsA_in (i := 316) (by decide +kernel) (by decide +kernel)
theorem im_X_dropReference : Cond.instanceMethod yX_dropReference ∈ wsA := wsA_in (i := 318) (by decide +kernel) (by decide +kernel)
theorem cd_X_dropReference : Cond.code yX_dropReference cX_dropReference 3 none ∈ wsA := wsA_in (i := 319) (by decide +kernel) (by decide +kernel)
theorem ln_X_123 : Cond.methodLink RX 123 yX_letGo ∈ wsA := wsA_in (i := 320) (by decide +kernel) (by decide +kernel)
theorem im_X_letGo : Cond.instanceMethod yX_letGo ∈ wsA := wsA_in (i := 322) (by decide +kernel) (by decide +kernel)
theorem cd_X_letGo : Cond.code yX_letGo cX_letGo 5 none ∈ wsA := wsA_in (i := 323) (by decide +kernel) (by decide +kernel)
theorem ln_L_62 : Cond.methodLink RL 62 yL_set ∈ wsA := wsA_in (i := 324) (by decide +kernel) (by decide +kernel)
theorem sm_L_set : Cond.static yL_set ∈ wsA := wsA_in (i := 325) (by decide +kernel) (by decide +kernel)
theorem ln_L_19 : Cond.methodLink RL 19 yX_set ∈ wsA := wsA_in (i := 327) (by decide +kernel) (by decide +kernel)
theorem im_X_set : Cond.instanceMethod yX_set ∈ wsA := wsA_in (i := 328) (by decide +kernel) (by decide +kernel)
theorem se_X_set : Cond.selects RX yX_set yX_set ∈ wsA := wsA_in (i := 329) (by decide +kernel) (by decide +kernel)
theorem cd_X_set : Cond.code yX_set cX_set 3 (some .int) ∈ wsA := wsA_in (i := 330) (by decide +kernel) (by decide +kernel)
theorem ln_L_66 : Cond.methodLink RL 66 yL_register ∈ wsA := wsA_in (i := 331) (by decide +kernel) (by decide +kernel)
theorem sm_L_register : Cond.static yL_register ∈ wsA := wsA_in (i := 332) (by decide +kernel) (by decide +kernel)
theorem ln_L_23 : Cond.methodLink RL 23 yX_register ∈ wsA := wsA_in (i := 334) (by decide +kernel) (by decide +kernel)
theorem im_X_register : Cond.instanceMethod yX_register ∈ wsA := wsA_in (i := 335) (by decide +kernel) (by decide +kernel)
theorem se_X_register : Cond.selects RX yX_register yX_register ∈ wsA := wsA_in (i := 336) (by decide +kernel) (by decide +kernel)
theorem cd_X_register : Cond.code yX_register cX_register 2 (some .int) ∈ wsA := wsA_in (i := 337) (by decide +kernel) (by decide +kernel)
theorem ln_L_70 : Cond.methodLink RL 70 yL_fetch ∈ wsA := wsA_in (i := 338) (by decide +kernel) (by decide +kernel)
theorem sm_L_fetch : Cond.static yL_fetch ∈ wsA := wsA_in (i := 339) (by decide +kernel) (by decide +kernel)
theorem ln_L_27 : Cond.methodLink RL 27 yX_fetch ∈ wsA := wsA_in (i := 341) (by decide +kernel) (by decide +kernel)
theorem im_X_fetch : Cond.instanceMethod yX_fetch ∈ wsA := wsA_in (i := 342) (by decide +kernel) (by decide +kernel)
theorem se_X_fetch : Cond.selects RX yX_fetch yX_fetch ∈ wsA := wsA_in (i := 343) (by decide +kernel) (by decide +kernel)
theorem cd_X_fetch : Cond.code yX_fetch cX_fetch 3 (some .int) ∈ wsA := wsA_in (i := 344) (by decide +kernel) (by decide +kernel)
theorem ln_X_90 : Cond.methodLink RX 90 yX_hasField ∈ wsA := wsA_in (i := 345) (by decide +kernel) (by decide +kernel)
theorem im_X_hasField : Cond.instanceMethod yX_hasField ∈ wsA := wsA_in (i := 347) (by decide +kernel) (by decide +kernel)
theorem cd_X_hasField : Cond.code yX_hasField cX_hasField 3 (some .boolean) ∈ wsA := wsA_in (i := 348) (by decide +kernel) (by decide +kernel)
theorem ln_X_94 : Cond.methodLink RX 94 yX_fieldWord ∈ wsA := wsA_in (i := 349) (by decide +kernel) (by decide +kernel)
theorem im_X_fieldWord : Cond.instanceMethod yX_fieldWord ∈ wsA := wsA_in (i := 351) (by decide +kernel) (by decide +kernel)
theorem cd_X_fieldWord : Cond.code yX_fieldWord cX_fieldWord 3 (some .int) ∈ wsA := wsA_in (i := 352) (by decide +kernel) (by decide +kernel)
theorem ln_L_73 : Cond.methodLink RL 73 yL_store ∈ wsA := wsA_in (i := 353) (by decide +kernel) (by decide +kernel)
theorem sm_L_store : Cond.static yL_store ∈ wsA := wsA_in (i := 354) (by decide +kernel) (by decide +kernel)
theorem ln_L_30 : Cond.methodLink RL 30 yX_store ∈ wsA := wsA_in (i := 356) (by decide +kernel) (by decide +kernel)
theorem im_X_store : Cond.instanceMethod yX_store ∈ wsA := wsA_in (i := 357) (by decide +kernel) (by decide +kernel)
theorem se_X_store : Cond.selects RX yX_store yX_store ∈ wsA := wsA_in (i := 358) (by decide +kernel) (by decide +kernel)
theorem cd_X_store : Cond.code yX_store cX_store 6 (some .int) ∈ wsA := wsA_in (i := 359) (by decide +kernel) (by decide +kernel)
theorem ln_L_76 : Cond.methodLink RL 76 yL_type ∈ wsA := wsA_in (i := 360) (by decide +kernel) (by decide +kernel)
theorem sm_L_type : Cond.static yL_type ∈ wsA := wsA_in (i := 361) (by decide +kernel) (by decide +kernel)
theorem ln_L_33 : Cond.methodLink RL 33 yX_type ∈ wsA := wsA_in (i := 363) (by decide +kernel) (by decide +kernel)
theorem im_X_type : Cond.instanceMethod yX_type ∈ wsA := wsA_in (i := 364) (by decide +kernel) (by decide +kernel)
theorem se_X_type : Cond.selects RX yX_type yX_type ∈ wsA := wsA_in (i := 365) (by decide +kernel) (by decide +kernel)
theorem cd_X_type : Cond.code yX_type cX_type 2 (some .int) ∈ wsA := wsA_in (i := 366) (by decide +kernel) (by decide +kernel)
theorem ln_L_79 : Cond.methodLink RL 79 yL_fields ∈ wsA := wsA_in (i := 367) (by decide +kernel) (by decide +kernel)
theorem sm_L_fields : Cond.static yL_fields ∈ wsA := wsA_in (i := 368) (by decide +kernel) (by decide +kernel)
theorem ln_L_36 : Cond.methodLink RL 36 yX_fields ∈ wsA := wsA_in (i := 370) (by decide +kernel) (by decide +kernel)
theorem im_X_fields : Cond.instanceMethod yX_fields ∈ wsA := wsA_in (i := 371) (by decide +kernel) (by decide +kernel)
theorem se_X_fields : Cond.selects RX yX_fields yX_fields ∈ wsA := wsA_in (i := 372) (by decide +kernel) (by decide +kernel)
theorem cd_X_fields : Cond.code yX_fields cX_fields 2 (some .int) ∈ wsA := wsA_in (i := 373) (by decide +kernel) (by decide +kernel)
theorem ln_L_82 : Cond.methodLink RL 82 yL_become ∈ wsA := wsA_in (i := 374) (by decide +kernel) (by decide +kernel)
theorem sm_L_become : Cond.static yL_become ∈ wsA := wsA_in (i := 375) (by decide +kernel) (by decide +kernel)
theorem ln_L_39 : Cond.methodLink RL 39 yX_become ∈ wsA := wsA_in (i := 377) (by decide +kernel) (by decide +kernel)
theorem im_X_become : Cond.instanceMethod yX_become ∈ wsA := wsA_in (i := 378) (by decide +kernel) (by decide +kernel)
theorem se_X_become : Cond.selects RX yX_become yX_become ∈ wsA := wsA_in (i := 379) (by decide +kernel) (by decide +kernel)
theorem cd_X_become : Cond.code yX_become cX_become 4 none ∈ wsA := wsA_in (i := 380) (by decide +kernel) (by decide +kernel)
theorem ln_L_53 : Cond.methodLink RL 53 yM_init ∈ wsA := wsA_in (i := 383) (by decide +kernel) (by decide +kernel)
theorem im_M_init : Cond.instanceMethod yM_init ∈ wsA := wsA_in (i := 384) (by decide +kernel) (by decide +kernel)
theorem cd_M_init : Cond.code yM_init cM_init 3 none ∈ wsA := wsA_in (i := 385) (by decide +kernel) (by decide +kernel)
theorem ln_M_54 : Cond.methodLink RM 54 yM_give ∈ wsA := wsA_in (i := 387) (by decide +kernel) (by decide +kernel)
theorem im_M_give : Cond.instanceMethod yM_give ∈ wsA := wsA_in (i := 389) (by decide +kernel) (by decide +kernel)
theorem cd_M_give : Cond.code yM_give cM_give 3 none ∈ wsA := wsA_in (i := 390) (by decide +kernel) (by decide +kernel)
theorem fl_M_58 : Cond.fieldLink RM 58 "CountedObjectsModel" "thrown" "I" ∈ wsA := wsA_in (i := 391) (by decide +kernel) (by decide +kernel)
theorem fl_M_47 : Cond.fieldLink RM 47 "CountedObjectsModel" "words" "I" ∈ wsA := wsA_in (i := 392) (by decide +kernel) (by decide +kernel)
theorem fl_M_51 : Cond.fieldLink RM 51 "CountedObjectsModel" "entries" "I" ∈ wsA := wsA_in (i := 393) (by decide +kernel) (by decide +kernel)
theorem fl_M_7 : Cond.fieldLink RM 7 "CountedObjectsModel" "registers" "[I" ∈ wsA := wsA_in (i := 394) (by decide +kernel) (by decide +kernel)
theorem fl_M_13 : Cond.fieldLink RM 13 "CountedObjectsModel" "lives" "[Z" ∈ wsA := wsA_in (i := 395) (by decide +kernel) (by decide +kernel)
theorem fl_M_17 : Cond.fieldLink RM 17 "CountedObjectsModel" "addresses" "[I" ∈ wsA := wsA_in (i := 396) (by decide +kernel) (by decide +kernel)
theorem fl_M_20 : Cond.fieldLink RM 20 "CountedObjectsModel" "sizes" "[I" ∈ wsA := wsA_in (i := 397) (by decide +kernel) (by decide +kernel)
theorem fl_M_23 : Cond.fieldLink RM 23 "CountedObjectsModel" "counts" "[I" ∈ wsA := wsA_in (i := 398) (by decide +kernel) (by decide +kernel)
theorem fl_M_26 : Cond.fieldLink RM 26 "CountedObjectsModel" "word" "[I" ∈ wsA := wsA_in (i := 399) (by decide +kernel) (by decide +kernel)
theorem fl_M_68 : Cond.fieldLink RM 68 "CountedObjectsModel" "frees" "I" ∈ wsA := wsA_in (i := 400) (by decide +kernel) (by decide +kernel)
theorem fl_M_29 : Cond.fieldLink RM 29 "CountedObjectsModel" "begins" "[I" ∈ wsA := wsA_in (i := 401) (by decide +kernel) (by decide +kernel)
theorem fl_M_32 : Cond.fieldLink RM 32 "CountedObjectsModel" "lengths" "[I" ∈ wsA := wsA_in (i := 402) (by decide +kernel) (by decide +kernel)
theorem fl_M_35 : Cond.fieldLink RM 35 "CountedObjectsModel" "came" "[I" ∈ wsA := wsA_in (i := 403) (by decide +kernel) (by decide +kernel)
theorem fl_M_71 : Cond.fieldLink RM 71 "CountedObjectsModel" "clock" "I" ∈ wsA := wsA_in (i := 404) (by decide +kernel) (by decide +kernel)
theorem fl_M_85 : Cond.fieldLink RM 85 "CountedObjectsModel" "going" "I" ∈ wsA := wsA_in (i := 405) (by decide +kernel) (by decide +kernel)
theorem fl_M_38 : Cond.fieldLink RM 38 "CountedObjectsModel" "goes" "[I" ∈ wsA := wsA_in (i := 406) (by decide +kernel) (by decide +kernel)
theorem fl_M_41 : Cond.fieldLink RM 41 "CountedObjectsModel" "next" "[I" ∈ wsA := wsA_in (i := 407) (by decide +kernel) (by decide +kernel)
theorem fl_M_44 : Cond.fieldLink RM 44 "CountedObjectsModel" "reached" "[Z" ∈ wsA := wsA_in (i := 408) (by decide +kernel) (by decide +kernel)
theorem la_M_thrown : Cond.lays RM "CountedObjectsModel" "thrown" "I" ∈ wsA := wsA_in (i := 409) (by decide +kernel) (by decide +kernel)
theorem la_M_words : Cond.laysFinal RM "CountedObjectsModel" "words" "I" ∈ wsA := wsA_in (i := 411) (by decide +kernel) (by decide +kernel)
theorem la_M_entries : Cond.laysFinal RM "CountedObjectsModel" "entries" "I" ∈ wsA := wsA_in (i := 413) (by decide +kernel) (by decide +kernel)
theorem la_M_registers : Cond.laysFinal RM "CountedObjectsModel" "registers" "[I" ∈ wsA := wsA_in (i := 415) (by decide +kernel) (by decide +kernel)
theorem la_M_lives : Cond.laysFinal RM "CountedObjectsModel" "lives" "[Z" ∈ wsA := wsA_in (i := 417) (by decide +kernel) (by decide +kernel)
theorem la_M_addresses : Cond.laysFinal RM "CountedObjectsModel" "addresses" "[I" ∈ wsA := wsA_in (i := 419) (by decide +kernel) (by decide +kernel)
theorem la_M_sizes : Cond.laysFinal RM "CountedObjectsModel" "sizes" "[I" ∈ wsA := wsA_in (i := 421) (by decide +kernel) (by decide +kernel)
theorem la_M_counts : Cond.laysFinal RM "CountedObjectsModel" "counts" "[I" ∈ wsA := wsA_in (i := 423) (by decide +kernel) (by decide +kernel)
theorem la_M_word : Cond.laysFinal RM "CountedObjectsModel" "word" "[I" ∈ wsA := wsA_in (i := 425) (by decide +kernel) (by decide +kernel)
theorem la_M_frees : Cond.lays RM "CountedObjectsModel" "frees" "I" ∈ wsA := wsA_in (i := 427) (by decide +kernel) (by decide +kernel)
theorem la_M_begins : Cond.laysFinal RM "CountedObjectsModel" "begins" "[I" ∈ wsA := wsA_in (i := 429) (by decide +kernel) (by decide +kernel)
theorem la_M_lengths : Cond.laysFinal RM "CountedObjectsModel" "lengths" "[I" ∈ wsA := wsA_in (i := 431) (by decide +kernel) (by decide +kernel)
theorem la_M_came : Cond.laysFinal RM "CountedObjectsModel" "came" "[I" ∈ wsA := wsA_in (i := 433) (by decide +kernel) (by decide +kernel)
theorem la_M_clock : Cond.lays RM "CountedObjectsModel" "clock" "I" ∈ wsA := wsA_in (i := 435) (by decide +kernel) (by decide +kernel)
theorem la_M_going : Cond.lays RM "CountedObjectsModel" "going" "I" ∈ wsA := wsA_in (i := 437) (by decide +kernel) (by decide +kernel)
theorem la_M_goes : Cond.laysFinal RM "CountedObjectsModel" "goes" "[I" ∈ wsA := wsA_in (i := 439) (by decide +kernel) (by decide +kernel)
theorem la_M_next : Cond.laysFinal RM "CountedObjectsModel" "next" "[I" ∈ wsA := wsA_in (i := 441) (by decide +kernel) (by decide +kernel)
theorem la_M_reached : Cond.laysFinal RM "CountedObjectsModel" "reached" "[Z" ∈ wsA := wsA_in (i := 443) (by decide +kernel) (by decide +kernel)
theorem ln_L_58 : Cond.methodLink RL 58 yM_thrown ∈ wsA := wsA_in (i := 446) (by decide +kernel) (by decide +kernel)
theorem im_M_thrown : Cond.instanceMethod yM_thrown ∈ wsA := wsA_in (i := 447) (by decide +kernel) (by decide +kernel)
theorem se_M_thrown : Cond.selects RM yM_thrown yM_thrown ∈ wsA := wsA_in (i := 448) (by decide +kernel) (by decide +kernel)
theorem cd_M_thrown : Cond.code yM_thrown cM_thrown 1 (some .int) ∈ wsA := wsA_in (i := 449) (by decide +kernel) (by decide +kernel)
theorem ln_L_57 : Cond.methodLink RL 57 yM_instantiate ∈ wsA := wsA_in (i := 450) (by decide +kernel) (by decide +kernel)
theorem im_M_instantiate : Cond.instanceMethod yM_instantiate ∈ wsA := wsA_in (i := 451) (by decide +kernel) (by decide +kernel)
theorem se_M_instantiate : Cond.selects RM yM_instantiate yM_instantiate ∈ wsA := wsA_in (i := 452) (by decide +kernel) (by decide +kernel)
theorem cd_M_instantiate : Cond.code yM_instantiate cM_instantiate 8 (some .int) ∈ wsA := wsA_in (i := 453) (by decide +kernel) (by decide +kernel)
theorem ln_M_107 : Cond.methodLink RM 107 yM_isRegister ∈ wsA := wsA_in (i := 454) (by decide +kernel) (by decide +kernel)
theorem sm_M_isRegister : Cond.static yM_isRegister ∈ wsA := wsA_in (i := 455) (by decide +kernel) (by decide +kernel)
theorem cd_M_isRegister : Cond.code yM_isRegister cM_isRegister 1 (some .boolean) ∈ wsA := wsA_in (i := 456) (by decide +kernel) (by decide +kernel)
theorem ln_M_110 : Cond.methodLink RM 110 yM_isValue ∈ wsA := wsA_in (i := 457) (by decide +kernel) (by decide +kernel)
theorem im_M_isValue : Cond.instanceMethod yM_isValue ∈ wsA := wsA_in (i := 459) (by decide +kernel) (by decide +kernel)
theorem cd_M_isValue : Cond.code yM_isValue cM_isValue 2 (some .boolean) ∈ wsA := wsA_in (i := 460) (by decide +kernel) (by decide +kernel)
theorem ln_M_61 : Cond.methodLink RM 61 yM_leads ∈ wsA := wsA_in (i := 461) (by decide +kernel) (by decide +kernel)
theorem sm_M_leads : Cond.static yM_leads ∈ wsA := wsA_in (i := 462) (by decide +kernel) (by decide +kernel)
theorem cd_M_leads : Cond.code yM_leads cM_leads 1 (some .boolean) ∈ wsA := wsA_in (i := 463) (by decide +kernel) (by decide +kernel)
theorem ln_M_65 : Cond.methodLink RM 65 yM_isObject ∈ wsA := wsA_in (i := 464) (by decide +kernel) (by decide +kernel)
theorem im_M_isObject : Cond.instanceMethod yM_isObject ∈ wsA := wsA_in (i := 466) (by decide +kernel) (by decide +kernel)
theorem cd_M_isObject : Cond.code yM_isObject cM_isObject 2 (some .boolean) ∈ wsA := wsA_in (i := 467) (by decide +kernel) (by decide +kernel)
theorem ln_M_113 : Cond.methodLink RM 113 yM_freeEntry ∈ wsA := wsA_in (i := 468) (by decide +kernel) (by decide +kernel)
theorem im_M_freeEntry : Cond.instanceMethod yM_freeEntry ∈ wsA := wsA_in (i := 470) (by decide +kernel) (by decide +kernel)
theorem cd_M_freeEntry : Cond.code yM_freeEntry cM_freeEntry 2 (some .int) ∈ wsA := wsA_in (i := 471) (by decide +kernel) (by decide +kernel)
theorem ln_M_116 : Cond.methodLink RM 116 yM_gather ∈ wsA := wsA_in (i := 472) (by decide +kernel) (by decide +kernel)
theorem im_M_gather : Cond.instanceMethod yM_gather ∈ wsA := wsA_in (i := 474) (by decide +kernel) (by decide +kernel)
theorem cd_M_gather : Cond.code yM_gather cM_gather 6 (some .int) ∈ wsA := wsA_in (i := 475) (by decide +kernel) (by decide +kernel)
theorem ln_M_101 : Cond.methodLink RM 101 yM_reach ∈ wsA := wsA_in (i := 476) (by decide +kernel) (by decide +kernel)
theorem im_M_reach : Cond.instanceMethod yM_reach ∈ wsA := wsA_in (i := 478) (by decide +kernel) (by decide +kernel)
theorem cd_M_reach : Cond.code yM_reach cM_reach 3 (some .boolean) ∈ wsA := wsA_in (i := 479) (by decide +kernel) (by decide +kernel)
theorem ln_M_104 : Cond.methodLink RM 104 yM_spread ∈ wsA := wsA_in (i := 480) (by decide +kernel) (by decide +kernel)
theorem im_M_spread : Cond.instanceMethod yM_spread ∈ wsA := wsA_in (i := 482) (by decide +kernel) (by decide +kernel)
theorem cd_M_spread : Cond.code yM_spread cM_spread 5 (some .boolean) ∈ wsA := wsA_in (i := 483) (by decide +kernel) (by decide +kernel)
theorem ln_M_92 : Cond.methodLink RM 92 yM_takeAway ∈ wsA := wsA_in (i := 484) (by decide +kernel) (by decide +kernel)
theorem im_M_takeAway : Cond.instanceMethod yM_takeAway ∈ wsA := wsA_in (i := 486) (by decide +kernel) (by decide +kernel)
theorem cd_M_takeAway : Cond.code yM_takeAway cM_takeAway 2 none ∈ wsA := wsA_in (i := 487) (by decide +kernel) (by decide +kernel)
theorem ln_M_95 : Cond.methodLink RM 95 yM_comes ∈ wsA := wsA_in (i := 488) (by decide +kernel) (by decide +kernel)
theorem im_M_comes : Cond.instanceMethod yM_comes ∈ wsA := wsA_in (i := 490) (by decide +kernel) (by decide +kernel)
theorem cd_M_comes : Cond.code yM_comes cM_comes 2 none ∈ wsA := wsA_in (i := 491) (by decide +kernel) (by decide +kernel)
theorem ln_M_119 : Cond.methodLink RM 119 yM_place ∈ wsA := wsA_in (i := 492) (by decide +kernel) (by decide +kernel)
theorem im_M_place : Cond.instanceMethod yM_place ∈ wsA := wsA_in (i := 494) (by decide +kernel) (by decide +kernel)
theorem cd_M_place : Cond.code yM_place cM_place 5 (some .int) ∈ wsA := wsA_in (i := 495) (by decide +kernel) (by decide +kernel)
theorem ln_M_74 : Cond.methodLink RM 74 yM_fitting ∈ wsA := wsA_in (i := 496) (by decide +kernel) (by decide +kernel)
theorem im_M_fitting : Cond.instanceMethod yM_fitting ∈ wsA := wsA_in (i := 498) (by decide +kernel) (by decide +kernel)
theorem cd_M_fitting : Cond.code yM_fitting cM_fitting 5 (some .int) ∈ wsA := wsA_in (i := 499) (by decide +kernel) (by decide +kernel)
theorem ln_M_78 : Cond.methodLink RM 78 yM_freeWords ∈ wsA := wsA_in (i := 500) (by decide +kernel) (by decide +kernel)
theorem im_M_freeWords : Cond.instanceMethod yM_freeWords ∈ wsA := wsA_in (i := 502) (by decide +kernel) (by decide +kernel)
theorem cd_M_freeWords : Cond.code yM_freeWords cM_freeWords 3 (some .int) ∈ wsA := wsA_in (i := 503) (by decide +kernel) (by decide +kernel)
theorem ln_M_82 : Cond.methodLink RM 82 yM_pack ∈ wsA := wsA_in (i := 504) (by decide +kernel) (by decide +kernel)
theorem im_M_pack : Cond.instanceMethod yM_pack ∈ wsA := wsA_in (i := 506) (by decide +kernel) (by decide +kernel)
theorem cd_M_pack : Cond.code yM_pack cM_pack 8 (some .int) ∈ wsA := wsA_in (i := 507) (by decide +kernel) (by decide +kernel)
theorem ln_M_122 : Cond.methodLink RM 122 yM_replace ∈ wsA := wsA_in (i := 508) (by decide +kernel) (by decide +kernel)
theorem im_M_replace : Cond.instanceMethod yM_replace ∈ wsA := wsA_in (i := 510) (by decide +kernel) (by decide +kernel)
theorem cd_M_replace : Cond.code yM_replace cM_replace 3 (some .int) ∈ wsA := wsA_in (i := 511) (by decide +kernel) (by decide +kernel)
theorem ln_M_98 : Cond.methodLink RM 98 yM_leaves ∈ wsA := wsA_in (i := 512) (by decide +kernel) (by decide +kernel)
theorem im_M_leaves : Cond.instanceMethod yM_leaves ∈ wsA := wsA_in (i := 514) (by decide +kernel) (by decide +kernel)
theorem cd_M_leaves : Cond.code yM_leaves cM_leaves 4 none ∈ wsA := wsA_in (i := 515) (by decide +kernel) (by decide +kernel)
theorem ln_M_88 : Cond.methodLink RM 88 yM_less ∈ wsA := wsA_in (i := 516) (by decide +kernel) (by decide +kernel)
theorem im_M_less : Cond.instanceMethod yM_less ∈ wsA := wsA_in (i := 518) (by decide +kernel) (by decide +kernel)
theorem cd_M_less : Cond.code yM_less cM_less 2 none ∈ wsA := wsA_in (i := 519) (by decide +kernel) (by decide +kernel)
theorem ln_L_65 : Cond.methodLink RL 65 yM_set ∈ wsA := wsA_in (i := 520) (by decide +kernel) (by decide +kernel)
theorem im_M_set : Cond.instanceMethod yM_set ∈ wsA := wsA_in (i := 521) (by decide +kernel) (by decide +kernel)
theorem se_M_set : Cond.selects RM yM_set yM_set ∈ wsA := wsA_in (i := 522) (by decide +kernel) (by decide +kernel)
theorem cd_M_set : Cond.code yM_set cM_set 4 (some .int) ∈ wsA := wsA_in (i := 523) (by decide +kernel) (by decide +kernel)
theorem ln_L_69 : Cond.methodLink RL 69 yM_register ∈ wsA := wsA_in (i := 524) (by decide +kernel) (by decide +kernel)
theorem im_M_register : Cond.instanceMethod yM_register ∈ wsA := wsA_in (i := 525) (by decide +kernel) (by decide +kernel)
theorem se_M_register : Cond.selects RM yM_register yM_register ∈ wsA := wsA_in (i := 526) (by decide +kernel) (by decide +kernel)
theorem cd_M_register : Cond.code yM_register cM_register 2 (some .int) ∈ wsA := wsA_in (i := 527) (by decide +kernel) (by decide +kernel)
theorem ln_L_72 : Cond.methodLink RL 72 yM_fetch ∈ wsA := wsA_in (i := 528) (by decide +kernel) (by decide +kernel)
theorem im_M_fetch : Cond.instanceMethod yM_fetch ∈ wsA := wsA_in (i := 529) (by decide +kernel) (by decide +kernel)
theorem se_M_fetch : Cond.selects RM yM_fetch yM_fetch ∈ wsA := wsA_in (i := 530) (by decide +kernel) (by decide +kernel)
theorem cd_M_fetch : Cond.code yM_fetch cM_fetch 3 (some .int) ∈ wsA := wsA_in (i := 531) (by decide +kernel) (by decide +kernel)
theorem ln_M_126 : Cond.methodLink RM 126 yM_hasField ∈ wsA := wsA_in (i := 532) (by decide +kernel) (by decide +kernel)
theorem im_M_hasField : Cond.instanceMethod yM_hasField ∈ wsA := wsA_in (i := 534) (by decide +kernel) (by decide +kernel)
theorem cd_M_hasField : Cond.code yM_hasField cM_hasField 3 (some .boolean) ∈ wsA := wsA_in (i := 535) (by decide +kernel) (by decide +kernel)
theorem ln_L_75 : Cond.methodLink RL 75 yM_store ∈ wsA := wsA_in (i := 536) (by decide +kernel) (by decide +kernel)
theorem im_M_store : Cond.instanceMethod yM_store ∈ wsA := wsA_in (i := 537) (by decide +kernel) (by decide +kernel)
theorem se_M_store : Cond.selects RM yM_store yM_store ∈ wsA := wsA_in (i := 538) (by decide +kernel) (by decide +kernel)
theorem cd_M_store : Cond.code yM_store cM_store 6 (some .int) ∈ wsA := wsA_in (i := 539) (by decide +kernel) (by decide +kernel)
theorem ln_L_78 : Cond.methodLink RL 78 yM_type ∈ wsA := wsA_in (i := 540) (by decide +kernel) (by decide +kernel)
theorem im_M_type : Cond.instanceMethod yM_type ∈ wsA := wsA_in (i := 541) (by decide +kernel) (by decide +kernel)
theorem se_M_type : Cond.selects RM yM_type yM_type ∈ wsA := wsA_in (i := 542) (by decide +kernel) (by decide +kernel)
theorem cd_M_type : Cond.code yM_type cM_type 2 (some .int) ∈ wsA := wsA_in (i := 543) (by decide +kernel) (by decide +kernel)
theorem ln_L_81 : Cond.methodLink RL 81 yM_fields ∈ wsA := wsA_in (i := 544) (by decide +kernel) (by decide +kernel)
theorem im_M_fields : Cond.instanceMethod yM_fields ∈ wsA := wsA_in (i := 545) (by decide +kernel) (by decide +kernel)
theorem se_M_fields : Cond.selects RM yM_fields yM_fields ∈ wsA := wsA_in (i := 546) (by decide +kernel) (by decide +kernel)
theorem cd_M_fields : Cond.code yM_fields cM_fields 2 (some .int) ∈ wsA := wsA_in (i := 547) (by decide +kernel) (by decide +kernel)
theorem ln_L_85 : Cond.methodLink RL 85 yM_become ∈ wsA := wsA_in (i := 548) (by decide +kernel) (by decide +kernel)
theorem im_M_become : Cond.instanceMethod yM_become ∈ wsA := wsA_in (i := 549) (by decide +kernel) (by decide +kernel)
theorem se_M_become : Cond.selects RM yM_become yM_become ∈ wsA := wsA_in (i := 550) (by decide +kernel) (by decide +kernel)
theorem cd_M_become : Cond.code yM_become cM_become 5 none ∈ wsA := wsA_in (i := 551) (by decide +kernel) (by decide +kernel)
theorem ln_L_89 : Cond.methodLink RL 89 yM_collect ∈ wsA := wsA_in (i := 552) (by decide +kernel) (by decide +kernel)
theorem im_M_collect : Cond.instanceMethod yM_collect ∈ wsA := wsA_in (i := 553) (by decide +kernel) (by decide +kernel)
theorem se_M_collect : Cond.selects RM yM_collect yM_collect ∈ wsA := wsA_in (i := 554) (by decide +kernel) (by decide +kernel)
theorem cd_M_collect : Cond.code yM_collect cM_collect 1 (some .int) ∈ wsA := wsA_in (i := 555) (by decide +kernel) (by decide +kernel)
theorem ln_L_93 : Cond.methodLink RL 93 yM_compact ∈ wsA := wsA_in (i := 556) (by decide +kernel) (by decide +kernel)
theorem im_M_compact : Cond.instanceMethod yM_compact ∈ wsA := wsA_in (i := 557) (by decide +kernel) (by decide +kernel)
theorem se_M_compact : Cond.selects RM yM_compact yM_compact ∈ wsA := wsA_in (i := 558) (by decide +kernel) (by decide +kernel)
theorem cd_M_compact : Cond.code yM_compact cM_compact 1 (some .int) ∈ wsA := wsA_in (i := 559) (by decide +kernel) (by decide +kernel)
theorem ln_L_98 : Cond.methodLink RL 98 yM_exists ∈ wsA := wsA_in (i := 560) (by decide +kernel) (by decide +kernel)
theorem im_M_exists : Cond.instanceMethod yM_exists ∈ wsA := wsA_in (i := 561) (by decide +kernel) (by decide +kernel)
theorem se_M_exists : Cond.selects RM yM_exists yM_exists ∈ wsA := wsA_in (i := 562) (by decide +kernel) (by decide +kernel)
theorem cd_M_exists : Cond.code yM_exists cM_exists 2 (some .boolean) ∈ wsA := wsA_in (i := 563) (by decide +kernel) (by decide +kernel)
theorem ln_L_102 : Cond.methodLink RL 102 yM_count ∈ wsA := wsA_in (i := 564) (by decide +kernel) (by decide +kernel)
theorem im_M_count : Cond.instanceMethod yM_count ∈ wsA := wsA_in (i := 565) (by decide +kernel) (by decide +kernel)
theorem se_M_count : Cond.selects RM yM_count yM_count ∈ wsA := wsA_in (i := 566) (by decide +kernel) (by decide +kernel)
theorem cd_M_count : Cond.code yM_count cM_count 2 (some .int) ∈ wsA := wsA_in (i := 567) (by decide +kernel) (by decide +kernel)
theorem ln_L_106 : Cond.methodLink RL 106 yM_address ∈ wsA := wsA_in (i := 568) (by decide +kernel) (by decide +kernel)
theorem im_M_address : Cond.instanceMethod yM_address ∈ wsA := wsA_in (i := 569) (by decide +kernel) (by decide +kernel)
theorem se_M_address : Cond.selects RM yM_address yM_address ∈ wsA := wsA_in (i := 570) (by decide +kernel) (by decide +kernel)
theorem cd_M_address : Cond.code yM_address cM_address 2 (some .int) ∈ wsA := wsA_in (i := 571) (by decide +kernel) (by decide +kernel)
theorem ln_L_110 : Cond.methodLink RL 110 yM_chunks ∈ wsA := wsA_in (i := 572) (by decide +kernel) (by decide +kernel)
theorem im_M_chunks : Cond.instanceMethod yM_chunks ∈ wsA := wsA_in (i := 573) (by decide +kernel) (by decide +kernel)
theorem se_M_chunks : Cond.selects RM yM_chunks yM_chunks ∈ wsA := wsA_in (i := 574) (by decide +kernel) (by decide +kernel)
theorem cd_M_chunks : Cond.code yM_chunks cM_chunks 4 (some .int) ∈ wsA := wsA_in (i := 575) (by decide +kernel) (by decide +kernel)
theorem ln_L_114 : Cond.methodLink RL 114 yM_free ∈ wsA := wsA_in (i := 576) (by decide +kernel) (by decide +kernel)
theorem im_M_free : Cond.instanceMethod yM_free ∈ wsA := wsA_in (i := 577) (by decide +kernel) (by decide +kernel)
theorem se_M_free : Cond.selects RM yM_free yM_free ∈ wsA := wsA_in (i := 578) (by decide +kernel) (by decide +kernel)
theorem cd_M_free : Cond.code yM_free cM_free 1 (some .int) ∈ wsA := wsA_in (i := 579) (by decide +kernel) (by decide +kernel)
theorem ln_L_118 : Cond.methodLink RL 118 yM_objects ∈ wsA := wsA_in (i := 580) (by decide +kernel) (by decide +kernel)
theorem im_M_objects : Cond.instanceMethod yM_objects ∈ wsA := wsA_in (i := 581) (by decide +kernel) (by decide +kernel)
theorem se_M_objects : Cond.selects RM yM_objects yM_objects ∈ wsA := wsA_in (i := 582) (by decide +kernel) (by decide +kernel)
theorem cd_M_objects : Cond.code yM_objects cM_objects 3 (some .int) ∈ wsA := wsA_in (i := 583) (by decide +kernel) (by decide +kernel)
theorem ac_long : Cond.arrayClass .long ∈ wsA := wsA_in (i := 584) (by decide +kernel) (by decide +kernel)
theorem se_X_takeUnreached : Cond.selects RX yX_takeUnreached yX_takeUnreached ∈ wsA := wsA_sel (by decide +kernel) (by decide +kernel)
theorem se_X_findReached : Cond.selects RX yX_findReached yX_findReached ∈ wsA := wsA_sel (by decide +kernel) (by decide +kernel)
theorem se_X_reach : Cond.selects RX yX_reach yX_reach ∈ wsA := wsA_sel (by decide +kernel) (by decide +kernel)
theorem se_X_isObject : Cond.selects RX yX_isObject yX_isObject ∈ wsA := wsA_sel (by decide +kernel) (by decide +kernel)
theorem se_X_isUsed : Cond.selects RX yX_isUsed yX_isUsed ∈ wsA := wsA_sel (by decide +kernel) (by decide +kernel)
theorem se_X_wordsOf : Cond.selects RX yX_wordsOf yX_wordsOf ∈ wsA := wsA_sel (by decide +kernel) (by decide +kernel)
theorem se_X_freeEntry : Cond.selects RX yX_freeEntry yX_freeEntry ∈ wsA := wsA_sel (by decide +kernel) (by decide +kernel)
theorem se_X_countAnew : Cond.selects RX yX_countAnew yX_countAnew ∈ wsA := wsA_sel (by decide +kernel) (by decide +kernel)
theorem se_X_addReference : Cond.selects RX yX_addReference yX_addReference ∈ wsA := wsA_sel (by decide +kernel) (by decide +kernel)
theorem se_X_moveTogether : Cond.selects RX yX_moveTogether yX_moveTogether ∈ wsA := wsA_sel (by decide +kernel) (by decide +kernel)
theorem se_X_lowestFrom : Cond.selects RX yX_lowestFrom yX_lowestFrom ∈ wsA := wsA_sel (by decide +kernel) (by decide +kernel)
theorem se_X_isValue : Cond.selects RX yX_isValue yX_isValue ∈ wsA := wsA_sel (by decide +kernel) (by decide +kernel)
theorem se_X_findRoom : Cond.selects RX yX_findRoom yX_findRoom ∈ wsA := wsA_sel (by decide +kernel) (by decide +kernel)
theorem se_X_leastFreeEntry : Cond.selects RX yX_leastFreeEntry yX_leastFreeEntry ∈ wsA := wsA_sel (by decide +kernel) (by decide +kernel)
theorem se_X_place : Cond.selects RX yX_place yX_place ∈ wsA := wsA_sel (by decide +kernel) (by decide +kernel)
theorem se_F_bestFor : Cond.selects RF yF_bestFor yF_bestFor ∈ wsA := wsA_sel (by decide +kernel) (by decide +kernel)
theorem se_F_remove : Cond.selects RF yF_remove yF_remove ∈ wsA := wsA_sel (by decide +kernel) (by decide +kernel)
theorem se_X_makeObject : Cond.selects RX yX_makeObject yX_makeObject ∈ wsA := wsA_sel (by decide +kernel) (by decide +kernel)
theorem se_X_replaceRegister : Cond.selects RX yX_replaceRegister yX_replaceRegister ∈ wsA := wsA_sel (by decide +kernel) (by decide +kernel)
theorem se_X_dropReference : Cond.selects RX yX_dropReference yX_dropReference ∈ wsA := wsA_sel (by decide +kernel) (by decide +kernel)
theorem se_X_letGo : Cond.selects RX yX_letGo yX_letGo ∈ wsA := wsA_sel (by decide +kernel) (by decide +kernel)
theorem se_X_hasField : Cond.selects RX yX_hasField yX_hasField ∈ wsA := wsA_sel (by decide +kernel) (by decide +kernel)
theorem se_X_fieldWord : Cond.selects RX yX_fieldWord yX_fieldWord ∈ wsA := wsA_sel (by decide +kernel) (by decide +kernel)
theorem se_M_give : Cond.selects RM yM_give yM_give ∈ wsA := wsA_sel (by decide +kernel) (by decide +kernel)
theorem se_M_isValue : Cond.selects RM yM_isValue yM_isValue ∈ wsA := wsA_sel (by decide +kernel) (by decide +kernel)
theorem se_M_isObject : Cond.selects RM yM_isObject yM_isObject ∈ wsA := wsA_sel (by decide +kernel) (by decide +kernel)
theorem se_M_freeEntry : Cond.selects RM yM_freeEntry yM_freeEntry ∈ wsA := wsA_sel (by decide +kernel) (by decide +kernel)
theorem se_M_gather : Cond.selects RM yM_gather yM_gather ∈ wsA := wsA_sel (by decide +kernel) (by decide +kernel)
theorem se_M_reach : Cond.selects RM yM_reach yM_reach ∈ wsA := wsA_sel (by decide +kernel) (by decide +kernel)
theorem se_M_spread : Cond.selects RM yM_spread yM_spread ∈ wsA := wsA_sel (by decide +kernel) (by decide +kernel)
theorem se_M_takeAway : Cond.selects RM yM_takeAway yM_takeAway ∈ wsA := wsA_sel (by decide +kernel) (by decide +kernel)
theorem se_M_comes : Cond.selects RM yM_comes yM_comes ∈ wsA := wsA_sel (by decide +kernel) (by decide +kernel)
theorem se_M_place : Cond.selects RM yM_place yM_place ∈ wsA := wsA_sel (by decide +kernel) (by decide +kernel)
theorem se_M_fitting : Cond.selects RM yM_fitting yM_fitting ∈ wsA := wsA_sel (by decide +kernel) (by decide +kernel)
theorem se_M_freeWords : Cond.selects RM yM_freeWords yM_freeWords ∈ wsA := wsA_sel (by decide +kernel) (by decide +kernel)
theorem se_M_pack : Cond.selects RM yM_pack yM_pack ∈ wsA := wsA_sel (by decide +kernel) (by decide +kernel)
theorem se_M_replace : Cond.selects RM yM_replace yM_replace ∈ wsA := wsA_sel (by decide +kernel) (by decide +kernel)
theorem se_M_leaves : Cond.selects RM yM_leaves yM_leaves ∈ wsA := wsA_sel (by decide +kernel) (by decide +kernel)
theorem se_M_less : Cond.selects RM yM_less yM_less ∈ wsA := wsA_sel (by decide +kernel) (by decide +kernel)
theorem se_M_hasField : Cond.selects RM yM_hasField yM_hasField ∈ wsA := wsA_sel (by decide +kernel) (by decide +kernel)
theorem hi_X : ∀ w ∈ u_ws RX TX 8, w ∈ wsA := by
  intro w h
  obtain ⟨k, hk, rfl⟩ := List.mem_map.mp h
  have hk := List.mem_range.mp hk
  match k, hk with
  | 0, _ => exact la_X_words
  | 1, _ => exact la_X_addresses
  | 2, _ => exact la_X_counts
  | 3, _ => exact la_X_registers
  | 4, _ => exact la_X_freeChunks
  | 5, _ => exact la_X_isReached
  | 6, _ => exact la_X_reachedEntries
  | 7, _ => exact la_X_reachedHeld
theorem hi_F : ∀ w ∈ u_ws RF TF 3, w ∈ wsA := by
  intro w h
  obtain ⟨k, hk, rfl⟩ := List.mem_map.mp h
  have hk := List.mem_range.mp hk
  match k, hk with
  | 0, _ => exact la_F_starts
  | 1, _ => exact la_F_sizes
  | 2, _ => exact la_F_held
theorem hi_M : ∀ w ∈ u_ws RM TM 18, w ∈ wsA := by
  intro w h
  obtain ⟨k, hk, rfl⟩ := List.mem_map.mp h
  have hk := List.mem_range.mp hk
  match k, hk with
  | 0, _ => exact la_M_thrown
  | 1, _ => exact la_M_words
  | 2, _ => exact la_M_entries
  | 3, _ => exact la_M_registers
  | 4, _ => exact la_M_lives
  | 5, _ => exact la_M_addresses
  | 6, _ => exact la_M_sizes
  | 7, _ => exact la_M_counts
  | 8, _ => exact la_M_word
  | 9, _ => exact la_M_frees
  | 10, _ => exact la_M_begins
  | 11, _ => exact la_M_lengths
  | 12, _ => exact la_M_came
  | 13, _ => exact la_M_clock
  | 14, _ => exact la_M_going
  | 15, _ => exact la_M_goes
  | 16, _ => exact la_M_next
  | 17, _ => exact la_M_reached
  | n + 18, hk => exact absurd hk (by omega)
end
section
/-! The walk's frame: a judgement GV that hides the heap behind a world 'wd S' (S: the contents of the arrays and the int fields), and a row for each instruction. -/
abbrev GS : Type := Nat → Nat → Int32
def gx_set (k i : Nat) (v : Int32) (S : GS) : GS := fun b => if b = k then upd (S k) i v else S b
def gx_row (k : Nat) (f : Nat → Int32) (S : GS) : GS := fun b => if b = k then f else S b
theorem gx_set_row (k i : Nat) (v : Int32) (S : GS) : gx_set k i v S = gx_row k (upd (S k) i v) S := rfl
/-- what a method's walk stands on -/
abbrev GC (p : Program) (s : State) (m : MethodId) (args : Array Value) (c : Code) (cc : ByteArray) (nL : Nat) (own : String) (Ts : List Cond) (D : va_G) (cl : List vw_C) (tys : List (ClassId × FieldType)) (A : Nat → Prop) : Prop :=
  CallFix p m c cc nL s args Ts own ∧ va_K D cl tys s ∧ (∀ q, s.heap.size ≤ q → A q) ∧ ∀ w ∈ Ts, goodWord w = true
section GXA
variable {p : Program} {l : Launch} {e : Env} {R : Room} {s : State} {m : MethodId} {args : Array Value} {below : List Frame} {meth : Method} {c : Code} {Q : State → Prop}
variable {cc : ByteArray} {nL : Nat} {own : String} {Ts : List Cond} {D : va_G} {cl : List vw_C} {tys : List (ClassId × FieldType)} {A : Nat → Prop} {wd : GS → va_W}
/-- at the pc, with these locals and this stack, over any heap that holds the world of S: the machine comes to Q -/
def GV (p : Program) (l : Launch) (e : Env) (R : Room) (s : State) (m : MethodId) (args : Array Value) (below : List Frame) (meth : Method) (c : Code) (Q : State → Prop) (nL : Nat) (D : va_G) (cl : List vw_C) (A : Nat → Prop) (wd : GS → va_W) (S : GS) (pc : Nat) (L : List (Nat × Value)) (st : List Value) : Prop :=
  ∀ (H : Heap) (locs : List Loc) (ls : Array Slot), lv_has ls nL L → va_P D cl (wd S) H → va_D A (wd S) → va_S A s.heap H locs → W p l e R s m args below meth c H locs 0 0 Q (F0 m pc ls st)
variable {S : GS} {pc : Nat} {L L' : List (Nat × Value)} {st : List Value}
theorem gx_iconst (C : GC p s m args c cc nL own Ts D cl tys A) {n : Int} {v : Int32} (d : decode cc pc = .ok (.iconst n, 1)) (hv : Int32.ofInt n = v) (k : GV p l e R s m args below meth c Q nL D cl A wd S (pc + 1) L (.int v :: st)) : GV p l e R s m args below meth c Q nL D cl A wd S pc L st :=
  fun H locs ls h1 h2 h3 h4 => lv_iconst C.1.1 C.1.2.1 d hv (k H locs ls h1 h2 h3 h4)
theorem gx_bipush (C : GC p s m args c cc nL own Ts D cl tys A) {n : Int} {v : Int32} (d : decode cc pc = .ok (.bipush n, 2)) (hv : (Int8.ofInt n).toInt32 = v) (k : GV p l e R s m args below meth c Q nL D cl A wd S (pc + 2) L (.int v :: st)) : GV p l e R s m args below meth c Q nL D cl A wd S pc L st :=
  fun H locs ls h1 h2 h3 h4 => lv_bipush C.1.1 C.1.2.1 d hv (k H locs ls h1 h2 h3 h4)
theorem gx_sipush (C : GC p s m args c cc nL own Ts D cl tys A) {n : Int} {v : Int32} (d : decode cc pc = .ok (.sipush n, 3)) (hv : (Int16.ofInt n).toInt32 = v) (k : GV p l e R s m args below meth c Q nL D cl A wd S (pc + 3) L (.int v :: st)) : GV p l e R s m args below meth c Q nL D cl A wd S pc L st :=
  fun H locs ls h1 h2 h3 h4 => lv_sipush C.1.1 C.1.2.1 d hv (k H locs ls h1 h2 h3 h4)
theorem gx_iload_n (C : GC p s m args c cc nL own Ts D cl tys A) {f : Fin 4} {i : Nat} {x : Int32} (d : decode cc pc = .ok (.iload_n f, 1)) (j : Nat) (hf : (f : Nat) = i) (hj : L[j]? = some (i, .int x)) (k : GV p l e R s m args below meth c Q nL D cl A wd S (pc + 1) L (.int x :: st)) : GV p l e R s m args below meth c Q nL D cl A wd S pc L st :=
  fun H locs ls h1 h2 h3 h4 => lv_iload_n C.1.1 C.1.2.1 d hf (lv_at h1 j hj) (k H locs ls h1 h2 h3 h4)
theorem gx_iload (C : GC p s m args c cc nL own Ts D cl tys A) {i : Nat} {x : Int32} (d : decode cc pc = .ok (.iload i, 2)) (j : Nat) (hj : L[j]? = some (i, .int x)) (k : GV p l e R s m args below meth c Q nL D cl A wd S (pc + 2) L (.int x :: st)) : GV p l e R s m args below meth c Q nL D cl A wd S pc L st :=
  fun H locs ls h1 h2 h3 h4 => lv_iload C.1.1 C.1.2.1 d (lv_at h1 j hj) (k H locs ls h1 h2 h3 h4)
theorem gx_aload_n (C : GC p s m args c cc nL own Ts D cl tys A) {f : Fin 4} {i x : Nat} (d : decode cc pc = .ok (.aload_n f, 1)) (j : Nat) (hf : (f : Nat) = i) (hj : L[j]? = some (i, .ref x)) (k : GV p l e R s m args below meth c Q nL D cl A wd S (pc + 1) L (.ref x :: st)) : GV p l e R s m args below meth c Q nL D cl A wd S pc L st :=
  fun H locs ls h1 h2 h3 h4 => lv_aload_n C.1.1 C.1.2.1 d hf (lv_at h1 j hj) (k H locs ls h1 h2 h3 h4)
theorem gx_istore_n (C : GC p s m args c cc nL own Ts D cl tys A) {f : Fin 4} {i : Nat} {x : Int32} (d : decode cc pc = .ok (.istore_n f, 1)) (hf : (f : Nat) = i) (hn : i < nL) (hl : (i, Value.int x) :: L.filter (fun q => !(q.1 == i) && !(q.1 + 1 == i && q.2.category == 2)) = L') (k : GV p l e R s m args below meth c Q nL D cl A wd S (pc + 1) L' st) : GV p l e R s m args below meth c Q nL D cl A wd S pc L (.int x :: st) :=
  fun H locs _ h1 h2 h3 h4 => lv_istore_n C.1.1 C.1.2.1 d hf h1 hn hl (fun ls' h' => k H locs ls' h' h2 h3 h4)
theorem gx_istore (C : GC p s m args c cc nL own Ts D cl tys A) {i : Nat} {x : Int32} (d : decode cc pc = .ok (.istore i, 2)) (hn : i < nL) (hl : (i, Value.int x) :: L.filter (fun q => !(q.1 == i) && !(q.1 + 1 == i && q.2.category == 2)) = L') (k : GV p l e R s m args below meth c Q nL D cl A wd S (pc + 2) L' st) : GV p l e R s m args below meth c Q nL D cl A wd S pc L (.int x :: st) :=
  fun H locs _ h1 h2 h3 h4 => lv_istore C.1.1 C.1.2.1 d h1 hn hl (fun ls' h' => k H locs ls' h' h2 h3 h4)
theorem gx_iinc (C : GC p s m args c cc nL own Ts D cl tys A) {i : Nat} {n : Int} {x v0 : Int32} {f : Int32 → List (Nat × Value)} (d : decode cc pc = .ok (.iinc i n, 3)) (j : Nat) (hj : L[j]? = some (i, .int x)) (hv : Int32.ofInt n = v0) (hn : i < nL) (hl : ∀ v : Int32, (i, Value.int v) :: L.filter (fun q => !(q.1 == i) && !(q.1 + 1 == i && q.2.category == 2)) = f v) (k : ∀ v : Int32, v = x + v0 → GV p l e R s m args below meth c Q nL D cl A wd S (pc + 3) (f v) st) : GV p l e R s m args below meth c Q nL D cl A wd S pc L st :=
  fun H locs _ h1 h2 h3 h4 => lv_iinc C.1.1 C.1.2.1 d h1 hj (v := x + v0) (by rw [hv]) hn (hl _) (fun ls' h' => k _ rfl H locs ls' h' h2 h3 h4)
/-- a name for the number on top -/
theorem gx_top {x : Int32} (k : ∀ v : Int32, v = x → GV p l e R s m args below meth c Q nL D cl A wd S pc L (.int v :: st)) : GV p l e R s m args below meth c Q nL D cl A wd S pc L (.int x :: st) := k x rfl
/-- fewer locals, in another order -/
theorem gx_sub (ks : List Nat) (hl : lv_pick L ks = L') (k : GV p l e R s m args below meth c Q nL D cl A wd S pc L' st) : GV p l e R s m args below meth c Q nL D cl A wd S pc L st :=
  fun H locs ls h1 h2 h3 h4 => k H locs ls (lv_sub h1 ks hl) h2 h3 h4
theorem gx_iadd (C : GC p s m args c cc nL own Ts D cl tys A) {x y : Int32} (d : decode cc pc = .ok (.iadd, 1)) (k : GV p l e R s m args below meth c Q nL D cl A wd S (pc + 1) L (.int (x + y) :: st)) : GV p l e R s m args below meth c Q nL D cl A wd S pc L (.int y :: .int x :: st) :=
  fun H locs ls h1 h2 h3 h4 => lv_iadd C.1.1 C.1.2.1 d (k H locs ls h1 h2 h3 h4)
theorem gx_isub (C : GC p s m args c cc nL own Ts D cl tys A) {x y : Int32} (d : decode cc pc = .ok (.isub, 1)) (k : GV p l e R s m args below meth c Q nL D cl A wd S (pc + 1) L (.int (x - y) :: st)) : GV p l e R s m args below meth c Q nL D cl A wd S pc L (.int y :: .int x :: st) :=
  fun H locs ls h1 h2 h3 h4 => lv_isub C.1.1 C.1.2.1 d (k H locs ls h1 h2 h3 h4)
theorem gx_imul (C : GC p s m args c cc nL own Ts D cl tys A) {x y : Int32} (d : decode cc pc = .ok (.imul, 1)) (k : GV p l e R s m args below meth c Q nL D cl A wd S (pc + 1) L (.int (x * y) :: st)) : GV p l e R s m args below meth c Q nL D cl A wd S pc L (.int y :: .int x :: st) :=
  fun H locs ls h1 h2 h3 h4 => lv_imul C.1.1 C.1.2.1 d (k H locs ls h1 h2 h3 h4)
theorem gx_iand (C : GC p s m args c cc nL own Ts D cl tys A) {x y : Int32} (d : decode cc pc = .ok (.iand, 1)) (k : GV p l e R s m args below meth c Q nL D cl A wd S (pc + 1) L (.int (x &&& y) :: st)) : GV p l e R s m args below meth c Q nL D cl A wd S pc L (.int y :: .int x :: st) :=
  fun H locs ls h1 h2 h3 h4 => lv_iand C.1.1 C.1.2.1 d (k H locs ls h1 h2 h3 h4)
theorem gx_idiv (C : GC p s m args c cc nL own Ts D cl tys A) {x y : Int32} (d : decode cc pc = .ok (.idiv, 1)) (hy : ¬ y = 0) (k : GV p l e R s m args below meth c Q nL D cl A wd S (pc + 1) L (.int (x / y) :: st)) : GV p l e R s m args below meth c Q nL D cl A wd S pc L (.int y :: .int x :: st) :=
  fun H locs ls h1 h2 h3 h4 => lv_idiv C.1.1 C.1.2.1 d hy (k H locs ls h1 h2 h3 h4)
theorem gx_irem (C : GC p s m args c cc nL own Ts D cl tys A) {x y : Int32} (d : decode cc pc = .ok (.irem, 1)) (hy : ¬ y = 0) (k : GV p l e R s m args below meth c Q nL D cl A wd S (pc + 1) L (.int (x - x / y * y) :: st)) : GV p l e R s m args below meth c Q nL D cl A wd S pc L (.int y :: .int x :: st) :=
  fun H locs ls h1 h2 h3 h4 => lv_irem C.1.1 C.1.2.1 d hy (k H locs ls h1 h2 h3 h4)
theorem gx_dup (C : GC p s m args c cc nL own Ts D cl tys A) {x : Value} (d : decode cc pc = .ok (.dup, 1)) (hx : x.category = 1) (k : GV p l e R s m args below meth c Q nL D cl A wd S (pc + 1) L (x :: x :: st)) : GV p l e R s m args below meth c Q nL D cl A wd S pc L (x :: st) :=
  fun H locs ls h1 h2 h3 h4 => lv_dup C.1.1 C.1.2.1 d hx (k H locs ls h1 h2 h3 h4)
theorem gx_dup2 (C : GC p s m args c cc nL own Ts D cl tys A) {x y : Value} (d : decode cc pc = .ok (.dup2, 1)) (hx : x.category = 1) (hy : y.category = 1) (k : GV p l e R s m args below meth c Q nL D cl A wd S (pc + 1) L (x :: y :: x :: y :: st)) : GV p l e R s m args below meth c Q nL D cl A wd S pc L (x :: y :: st) :=
  fun H locs ls h1 h2 h3 h4 => lv_dup2_11 C.1.1 C.1.2.1 d hx hy (k H locs ls h1 h2 h3 h4)
theorem gx_dup_x1 (C : GC p s m args c cc nL own Ts D cl tys A) {x y : Value} (d : decode cc pc = .ok (.dup_x1, 1)) (hx : x.category = 1) (hy : y.category = 1) (k : GV p l e R s m args below meth c Q nL D cl A wd S (pc + 1) L (x :: y :: x :: st)) : GV p l e R s m args below meth c Q nL D cl A wd S pc L (x :: y :: st) :=
  fun H locs ls h1 h2 h3 h4 => lv_dup_x1 C.1.1 C.1.2.1 d hx hy (k H locs ls h1 h2 h3 h4)
theorem gx_pop (C : GC p s m args c cc nL own Ts D cl tys A) {x : Value} (d : decode cc pc = .ok (.pop, 1)) (hx : x.category = 1) (k : GV p l e R s m args below meth c Q nL D cl A wd S (pc + 1) L st) : GV p l e R s m args below meth c Q nL D cl A wd S pc L (x :: st) :=
  fun H locs ls h1 h2 h3 h4 => lv_pop C.1.1 C.1.2.1 d hx (k H locs ls h1 h2 h3 h4)
theorem gx_goto (C : GC p s m args c cc nL own Ts D cl tys A) {off : Int} (d : decode cc pc = .ok (.goto off, 3)) (tgt : Nat) (ht : (pc : Int) + off = (tgt : Int)) (k : GV p l e R s m args below meth c Q nL D cl A wd S tgt L st) : GV p l e R s m args below meth c Q nL D cl A wd S pc L st :=
  fun H locs ls h1 h2 h3 h4 => lv_goto C.1.1 C.1.2.1 d ht (k H locs ls h1 h2 h3 h4)
theorem gx_if_eq (C : GC p s m args c cc nL own Ts D cl tys A) {x : Int32} {off : Int} (d : decode cc pc = .ok (.ifCond .eq off, 3)) (tgt : Nat) (ht : (pc : Int) + off = (tgt : Int)) (kt : x = 0 → GV p l e R s m args below meth c Q nL D cl A wd S tgt L st) (kf : ¬ x = 0 → GV p l e R s m args below meth c Q nL D cl A wd S (pc + 3) L st) : GV p l e R s m args below meth c Q nL D cl A wd S pc L (.int x :: st) :=
  fun H locs ls h1 h2 h3 h4 => lv_if_eq C.1.1 C.1.2.1 d ht (fun q => kt q H locs ls h1 h2 h3 h4) (fun q => kf q H locs ls h1 h2 h3 h4)
theorem gx_icmp_eq (C : GC p s m args c cc nL own Ts D cl tys A) {x y : Int32} {off : Int} (d : decode cc pc = .ok (.if_icmp .eq off, 3)) (tgt : Nat) (ht : (pc : Int) + off = (tgt : Int)) (kt : x = y → GV p l e R s m args below meth c Q nL D cl A wd S tgt L st) (kf : ¬ x = y → GV p l e R s m args below meth c Q nL D cl A wd S (pc + 3) L st) : GV p l e R s m args below meth c Q nL D cl A wd S pc L (.int y :: .int x :: st) :=
  fun H locs ls h1 h2 h3 h4 => lv_icmp_eq C.1.1 C.1.2.1 d ht (fun q => kt q H locs ls h1 h2 h3 h4) (fun q => kf q H locs ls h1 h2 h3 h4)
theorem gx_if_ne (C : GC p s m args c cc nL own Ts D cl tys A) {x : Int32} {off : Int} (d : decode cc pc = .ok (.ifCond .ne off, 3)) (tgt : Nat) (ht : (pc : Int) + off = (tgt : Int)) (kt : ¬ x = 0 → GV p l e R s m args below meth c Q nL D cl A wd S tgt L st) (kf : x = 0 → GV p l e R s m args below meth c Q nL D cl A wd S (pc + 3) L st) : GV p l e R s m args below meth c Q nL D cl A wd S pc L (.int x :: st) :=
  fun H locs ls h1 h2 h3 h4 => lv_if_ne C.1.1 C.1.2.1 d ht (fun q => kt q H locs ls h1 h2 h3 h4) (fun q => kf q H locs ls h1 h2 h3 h4)
theorem gx_icmp_ne (C : GC p s m args c cc nL own Ts D cl tys A) {x y : Int32} {off : Int} (d : decode cc pc = .ok (.if_icmp .ne off, 3)) (tgt : Nat) (ht : (pc : Int) + off = (tgt : Int)) (kt : ¬ x = y → GV p l e R s m args below meth c Q nL D cl A wd S tgt L st) (kf : x = y → GV p l e R s m args below meth c Q nL D cl A wd S (pc + 3) L st) : GV p l e R s m args below meth c Q nL D cl A wd S pc L (.int y :: .int x :: st) :=
  fun H locs ls h1 h2 h3 h4 => lv_icmp_ne C.1.1 C.1.2.1 d ht (fun q => kt q H locs ls h1 h2 h3 h4) (fun q => kf q H locs ls h1 h2 h3 h4)
theorem gx_if_lt (C : GC p s m args c cc nL own Ts D cl tys A) {x : Int32} {off : Int} (d : decode cc pc = .ok (.ifCond .lt off, 3)) (tgt : Nat) (ht : (pc : Int) + off = (tgt : Int)) (kt : x < 0 → GV p l e R s m args below meth c Q nL D cl A wd S tgt L st) (kf : ¬ x < 0 → GV p l e R s m args below meth c Q nL D cl A wd S (pc + 3) L st) : GV p l e R s m args below meth c Q nL D cl A wd S pc L (.int x :: st) :=
  fun H locs ls h1 h2 h3 h4 => lv_if_lt C.1.1 C.1.2.1 d ht (fun q => kt q H locs ls h1 h2 h3 h4) (fun q => kf q H locs ls h1 h2 h3 h4)
theorem gx_icmp_lt (C : GC p s m args c cc nL own Ts D cl tys A) {x y : Int32} {off : Int} (d : decode cc pc = .ok (.if_icmp .lt off, 3)) (tgt : Nat) (ht : (pc : Int) + off = (tgt : Int)) (kt : x < y → GV p l e R s m args below meth c Q nL D cl A wd S tgt L st) (kf : ¬ x < y → GV p l e R s m args below meth c Q nL D cl A wd S (pc + 3) L st) : GV p l e R s m args below meth c Q nL D cl A wd S pc L (.int y :: .int x :: st) :=
  fun H locs ls h1 h2 h3 h4 => lv_icmp_lt C.1.1 C.1.2.1 d ht (fun q => kt q H locs ls h1 h2 h3 h4) (fun q => kf q H locs ls h1 h2 h3 h4)
theorem gx_if_ge (C : GC p s m args c cc nL own Ts D cl tys A) {x : Int32} {off : Int} (d : decode cc pc = .ok (.ifCond .ge off, 3)) (tgt : Nat) (ht : (pc : Int) + off = (tgt : Int)) (kt : 0 ≤ x → GV p l e R s m args below meth c Q nL D cl A wd S tgt L st) (kf : ¬ 0 ≤ x → GV p l e R s m args below meth c Q nL D cl A wd S (pc + 3) L st) : GV p l e R s m args below meth c Q nL D cl A wd S pc L (.int x :: st) :=
  fun H locs ls h1 h2 h3 h4 => lv_if_ge C.1.1 C.1.2.1 d ht (fun q => kt q H locs ls h1 h2 h3 h4) (fun q => kf q H locs ls h1 h2 h3 h4)
theorem gx_icmp_ge (C : GC p s m args c cc nL own Ts D cl tys A) {x y : Int32} {off : Int} (d : decode cc pc = .ok (.if_icmp .ge off, 3)) (tgt : Nat) (ht : (pc : Int) + off = (tgt : Int)) (kt : y ≤ x → GV p l e R s m args below meth c Q nL D cl A wd S tgt L st) (kf : ¬ y ≤ x → GV p l e R s m args below meth c Q nL D cl A wd S (pc + 3) L st) : GV p l e R s m args below meth c Q nL D cl A wd S pc L (.int y :: .int x :: st) :=
  fun H locs ls h1 h2 h3 h4 => lv_icmp_ge C.1.1 C.1.2.1 d ht (fun q => kt q H locs ls h1 h2 h3 h4) (fun q => kf q H locs ls h1 h2 h3 h4)
theorem gx_if_gt (C : GC p s m args c cc nL own Ts D cl tys A) {x : Int32} {off : Int} (d : decode cc pc = .ok (.ifCond .gt off, 3)) (tgt : Nat) (ht : (pc : Int) + off = (tgt : Int)) (kt : 0 < x → GV p l e R s m args below meth c Q nL D cl A wd S tgt L st) (kf : ¬ 0 < x → GV p l e R s m args below meth c Q nL D cl A wd S (pc + 3) L st) : GV p l e R s m args below meth c Q nL D cl A wd S pc L (.int x :: st) :=
  fun H locs ls h1 h2 h3 h4 => lv_if_gt C.1.1 C.1.2.1 d ht (fun q => kt q H locs ls h1 h2 h3 h4) (fun q => kf q H locs ls h1 h2 h3 h4)
theorem gx_icmp_gt (C : GC p s m args c cc nL own Ts D cl tys A) {x y : Int32} {off : Int} (d : decode cc pc = .ok (.if_icmp .gt off, 3)) (tgt : Nat) (ht : (pc : Int) + off = (tgt : Int)) (kt : y < x → GV p l e R s m args below meth c Q nL D cl A wd S tgt L st) (kf : ¬ y < x → GV p l e R s m args below meth c Q nL D cl A wd S (pc + 3) L st) : GV p l e R s m args below meth c Q nL D cl A wd S pc L (.int y :: .int x :: st) :=
  fun H locs ls h1 h2 h3 h4 => lv_icmp_gt C.1.1 C.1.2.1 d ht (fun q => kt q H locs ls h1 h2 h3 h4) (fun q => kf q H locs ls h1 h2 h3 h4)
theorem gx_if_le (C : GC p s m args c cc nL own Ts D cl tys A) {x : Int32} {off : Int} (d : decode cc pc = .ok (.ifCond .le off, 3)) (tgt : Nat) (ht : (pc : Int) + off = (tgt : Int)) (kt : x ≤ 0 → GV p l e R s m args below meth c Q nL D cl A wd S tgt L st) (kf : ¬ x ≤ 0 → GV p l e R s m args below meth c Q nL D cl A wd S (pc + 3) L st) : GV p l e R s m args below meth c Q nL D cl A wd S pc L (.int x :: st) :=
  fun H locs ls h1 h2 h3 h4 => lv_if_le C.1.1 C.1.2.1 d ht (fun q => kt q H locs ls h1 h2 h3 h4) (fun q => kf q H locs ls h1 h2 h3 h4)
theorem gx_icmp_le (C : GC p s m args c cc nL own Ts D cl tys A) {x y : Int32} {off : Int} (d : decode cc pc = .ok (.if_icmp .le off, 3)) (tgt : Nat) (ht : (pc : Int) + off = (tgt : Int)) (kt : x ≤ y → GV p l e R s m args below meth c Q nL D cl A wd S tgt L st) (kf : ¬ x ≤ y → GV p l e R s m args below meth c Q nL D cl A wd S (pc + 3) L st) : GV p l e R s m args below meth c Q nL D cl A wd S pc L (.int y :: .int x :: st) :=
  fun H locs ls h1 h2 h3 h4 => lv_icmp_le C.1.1 C.1.2.1 d ht (fun q => kt q H locs ls h1 h2 h3 h4) (fun q => kf q H locs ls h1 h2 h3 h4)
/-! an array of the world: place q, address a, row k of S, n long -/
def GA (wd : GS → va_W) (tys : List (ClassId × FieldType)) (q a k n : Nat) (ty : FieldType) : Prop :=
  ∃ (cA : ClassId) (t0 : Nat), (∀ S : GS, (wd S)[q]? = some (a, .inl (cA, n, .inl (S k)))) ∧ (∀ (S : GS) (f : Nat → Int32), (wd S).set q (a, .inl (cA, n, .inl f)) = wd (gx_row k f S)) ∧ tys[t0]? = some (cA, ty)
theorem gx_iald (C : GC p s m args c cc nL own Ts D cl tys A) {q a k n : Nat} (h : GA wd tys q a k n .int) {i : Int32} (hin : vp_in i n) (d : decode cc pc = .ok (.iaload, 1)) (kk : GV p l e R s m args below meth c Q nL D cl A wd S (pc + 1) L (.int (S k i.toNatClampNeg) :: st)) : GV p l e R s m args below meth c Q nL D cl A wd S pc L (.int i :: .ref a :: st) := by
  obtain ⟨cA, t0, h5, h6, h7⟩ := h
  exact fun H locs ls h1 h2 h3 h4 => va_iald C.1.1 C.1.2.1 C.2.1 h2 q t0 (h5 S) h7 hin d (kk H locs ls h1 h2 h3 h4)
theorem gx_zald (C : GC p s m args c cc nL own Ts D cl tys A) {q a k n : Nat} (h : GA wd tys q a k n .boolean) {i : Int32} (hin : vp_in i n) (d : decode cc pc = .ok (.baload, 1)) (kk : GV p l e R s m args below meth c Q nL D cl A wd S (pc + 1) L (.int (S k i.toNatClampNeg) :: st)) : GV p l e R s m args below meth c Q nL D cl A wd S pc L (.int i :: .ref a :: st) := by
  obtain ⟨cA, t0, h5, h6, h7⟩ := h
  exact fun H locs ls h1 h2 h3 h4 => va_zald C.1.1 C.1.2.1 C.2.1 h2 q t0 (h5 S) h7 hin d (kk H locs ls h1 h2 h3 h4)
theorem gx_iast (C : GC p s m args c cc nL own Ts D cl tys A) {q a k n : Nat} (h : GA wd tys q a k n .int) {i x : Int32} (hin : vp_in i n) (d : decode cc pc = .ok (.iastore, 1)) (kk : ∀ S1 : GS, S1 = gx_set k i.toNatClampNeg x S → GV p l e R s m args below meth c Q nL D cl A wd S1 (pc + 1) L st) : GV p l e R s m args below meth c Q nL D cl A wd S pc L (.int x :: .int i :: .ref a :: st) := by
  obtain ⟨cA, t0, h5, h6, h7⟩ := h
  intro H locs ls h1 h2 h3 h4
  refine va_iast C.1.1 C.1.2.1 C.2.1 h2 h3 h4 q t0 (h5 S) h7 hin d (fun H1 locs1 g2 g3 g4 => ?_)
  rw [h6 S] at g2 g3
  exact kk _ rfl H1 locs1 ls h1 g2 g3 g4
theorem gx_zast (C : GC p s m args c cc nL own Ts D cl tys A) {q a k n : Nat} (h : GA wd tys q a k n .boolean) {i x : Int32} (hin : vp_in i n) (hx : vp_nar .boolean x = x) (d : decode cc pc = .ok (.bastore, 1)) (kk : ∀ S1 : GS, S1 = gx_set k i.toNatClampNeg x S → GV p l e R s m args below meth c Q nL D cl A wd S1 (pc + 1) L st) : GV p l e R s m args below meth c Q nL D cl A wd S pc L (.int x :: .int i :: .ref a :: st) := by
  obtain ⟨cA, t0, h5, h6, h7⟩ := h
  intro H locs ls h1 h2 h3 h4
  refine va_zast C.1.1 C.1.2.1 C.2.1 h2 h3 h4 q t0 (h5 S) h7 hin d (fun H1 locs1 g2 g3 g4 => ?_)
  rw [hx, h6 S] at g2 g3
  exact kk _ rfl H1 locs1 ls h1 g2 g3 g4
theorem gx_alen (C : GC p s m args c cc nL own Ts D cl tys A) {q a k n : Nat} {ty : FieldType} (h : GA wd tys q a k n ty) (d : decode cc pc = .ok (.arraylength, 1)) (kk : GV p l e R s m args below meth c Q nL D cl A wd S (pc + 1) L (.int (nI n) :: st)) : GV p l e R s m args below meth c Q nL D cl A wd S pc L (.ref a :: st) := by
  obtain ⟨cA, t0, h5, h6, h7⟩ := h
  exact fun H locs ls h1 h2 h3 h4 => va_alen C.1.1 C.1.2.1 C.2.1 h2 q t0 (h5 S) h7 (v := nI n) rfl d (kk H locs ls h1 h2 h3 h4)
/-- System.arraycopy within one int array -/
theorem gx_copy (C : GC p s m args c cc nL own Ts D cl tys A) {q a k n index : Nat} (h : GA wd tys q a k n .int) (hlink : Cond.methodLink own index arraycopyName ∈ Ts) (hnat : Cond.native arraycopyName ∈ Ts) (hstat : Cond.static arraycopyName ∈ Ts) (hini : Cond.initialized "java/lang/System" ∈ Ts) {sp dp nn : Int32} (h1 : ¬ sp < 0) (h2 : ¬ dp < 0) (h3 : ¬ nn < 0) (h4 : sp.toNatClampNeg + nn.toNatClampNeg ≤ n) (h5 : dp.toNatClampNeg + nn.toNatClampNeg ≤ n) (hframes : 1 ≤ R.frames) (hlocals : (st.map fun v => v.category).sum + (nativeFrameWords "java/lang/System" "arraycopy" 5 + 11) ≤ R.locals) (d : decode cc pc = .ok (.invokestatic index, 3)) (kk : ∀ S1 : GS, S1 = gx_row k (va_cpy (S k) (S k) sp.toNatClampNeg dp.toNatClampNeg nn.toNatClampNeg) S → GV p l e R s m args below meth c Q nL D cl A wd S1 (pc + 3) L st) : GV p l e R s m args below meth c Q nL D cl A wd S pc L (.int nn :: .int dp :: .ref a :: .int sp :: .ref a :: st) := by
  obtain ⟨cA, t0, h6, h7, h8⟩ := h
  intro H locs ls g1 g2 g3 g4
  refine va_copyi C.1.1 C.1.2.1 (C.1.2.2.1.trans g1.1.symm) C.1.2.2.2.1 (C.1.2.2.2.2 _ hlink) (C.1.2.2.2.2 _ hnat) (C.1.2.2.2.2 _ hstat) (C.1.2.2.2.2 _ hini) C.2.1 g2 g3 g4 q q t0 t0 (h6 S) (h6 S) h8 h8 rfl h1 h2 h3 h4 h5 (fun _ _ => rfl) hframes hlocals d (fun H1 locs1 e2 e3 e4 => ?_)
  rw [h7 S] at e2 e3
  exact kk _ rfl H1 locs1 ls g1 e2 e3 e4
/-! an object of the world -/
def GO (wd : GS → va_W) (cl : List vw_C) (q a ci : Nat) (Cn : String) (T : u_T) (N : Nat) (fs : GS → List Value) : Prop :=
  (∀ S : GS, (wd S)[q]? = some (a, .inr (ci, fs S))) ∧ cl[ci]? = some (Cn, T, N)
theorem gx_get (C : GC p s m args c cc nL own Ts D cl tys A) {q a ci N : Nat} {Cn : String} {T : u_T} {fs : GS → List Value} (h : GO wd cl q a ci Cn T N fs) (hin : ∀ w ∈ u_ws Cn T N, w ∈ Ts) {index : Nat} (k : Nat) (hk : k < N) (hlink : Cond.fieldLink own index (T k).1 (T k).2.1 (T k).2.2.1 ∈ Ts) {v : Value} (hv : (fs S)[k]? = some v) (d : decode cc pc = .ok (.getfield index, 3)) (kk : GV p l e R s m args below meth c Q nL D cl A wd S (pc + 3) L (v :: st)) : GV p l e R s m args below meth c Q nL D cl A wd S pc L (.ref a :: st) :=
  fun H locs ls h1 h2 h3 h4 => va_get C.1.1 C.1.2.1 C.1.2.2.2.2 hin C.1.2.2.2.1 C.2.1 h2 q (h.1 S) h.2 k hk (C.1.2.2.2.2 _ hlink) (fun _ h9 => h9) hv d (kk H locs ls h1 h2 h3 h4)
theorem gx_put (C : GC p s m args c cc nL own Ts D cl tys A) {q a ci N : Nat} {Cn : String} {T : u_T} {fs : GS → List Value} (h : GO wd cl q a ci Cn T N fs) (hin : ∀ w ∈ u_ws Cn T N, w ∈ Ts) (ty0 : Nat → FieldType) (hty : ∀ k, k < N → parseFieldDescriptor (T k).2.2.1 = some (ty0 k)) (hnm : ∀ a, a < N → ∀ b, b < N → a ≠ b → (T a).2.1 ≠ (T b).2.1) {index : Nat} (k : Nat) (hk : k < N) (hlink : Cond.fieldLink own index (T k).1 (T k).2.1 (T k).2.2.1 ∈ Ts) (hfin : (T k).2.2.2 = false) (hd : parseFieldDescriptor (T k).2.2.1 = some .int) (hl : k < (fs S).length) {v : Int32} {j : Nat} (hw : (wd S).set q (a, .inr (ci, (fs S).set k (.int v))) = wd (gx_set 100 j v S)) (d : decode cc pc = .ok (.putfield index, 3)) (kk : ∀ S1 : GS, S1 = gx_set 100 j v S → GV p l e R s m args below meth c Q nL D cl A wd S1 (pc + 3) L st) : GV p l e R s m args below meth c Q nL D cl A wd S pc L (.int v :: .ref a :: st) := by
  intro H locs ls h1 h2 h3 h4
  refine va_put C.1.1 C.1.2.1 C.1.2.2.2.2 hin ty0 hty hnm C.1.2.2.2.1 C.2.1 h2 h3 h4 q (h.1 S) h.2 k hk (C.1.2.2.2.2 _ hlink) (fun _ h9 => h9) hfin (ty := .int) (v := .int v) hd rfl rfl hl d (fun H1 locs1 g2 g3 g4 => ?_)
  rw [hw] at g2 g3
  exact kk _ rfl H1 locs1 ls h1 g2 g3 g4
/-! contracts over a world: the answer and the new contents by a postcondition -/
abbrev GP (wd : GS → va_W) (D : va_G) (cl : List vw_C) (tys : List (ClassId × FieldType)) (S : GS) (sz : Nat) : State → Prop := fun U => U.heap.size = sz ∧ va_P D cl (wd S) U.heap ∧ va_K D cl tys U ∧ va_D (fun _ => True) (wd S)
abbrev GB (wd : GS → va_W) (D : va_G) (cl : List vw_C) (tys : List (ClassId × FieldType)) (A : Nat → Prop) : GS → State → Prop := fun S t => va_P D cl (wd S) t.heap ∧ va_K D cl tys t ∧ va_D A (wd S)
def MetI (l : Launch) (y : MethodName) (ws : List Cond) (rm : Room) (D : va_G) (cl : List vw_C) (tys : List (ClassId × FieldType)) (wd : GS → va_W) (av : List Value) (S : GS) (post : Int32 → GS → Prop) : Prop :=
  ∀ sz : Nat, Met l y ws rm (va_Pc av (GP wd D cl tys S sz)) (va_Qi post (GB wd D cl tys (va_A (wd S) sz)) (va_A (wd S) sz)) 0 0 (va_A (wd S) sz)
def MetV (l : Launch) (y : MethodName) (ws : List Cond) (rm : Room) (D : va_G) (cl : List vw_C) (tys : List (ClassId × FieldType)) (wd : GS → va_W) (av : List Value) (S : GS) (post : GS → Prop) : Prop :=
  ∀ sz : Nat, Met l y ws rm (va_Pc av (GP wd D cl tys S sz)) (va_Qv post (GB wd D cl tys (va_A (wd S) sz)) (va_A (wd S) sz)) 0 0 (va_A (wd S) sz)
theorem gx_blind {av : List Value} {sz : Nat} : FrameBlind (va_Pc av (GP wd D cl tys S sz)) := fun a U g mk q => by
  obtain ⟨q0, q1, qP, qK, qD⟩ := q
  exact ⟨q0, q1, qP, va_K.moved (u := U) (U := U.calling g mk a) (Vm.Alike.refl U.vm) qK, qD⟩
theorem gx_D {A : Nat → Prop} {w1 w2 : va_W} (he : w2.map (fun q => q.1) = w1.map (fun q => q.1)) (h : va_D A w1) : va_D A w2 := by
  have key : ∀ (k : Nat) (q : Nat × va_E), w2[k]? = some q → ∃ q0, w1[k]? = some q0 ∧ q0.1 = q.1 := by
    intro k q hk
    have h1 : (w2.map (fun q => q.1))[k]? = some q.1 := by rw [List.getElem?_map, hk]; rfl
    rw [he, List.getElem?_map] at h1
    cases h2 : w1[k]? with
    | none => rw [h2] at h1; cases h1
    | some q0 => rw [h2] at h1; exact ⟨q0, rfl, Option.some.inj h1⟩
  refine ⟨fun i j x y hi hj hxy => ?_, fun k q hk => ?_⟩
  · obtain ⟨x0, a1, a2⟩ := key i x hi
    obtain ⟨y0, b1, b2⟩ := key j y hj
    exact h.1 i j x0 y0 a1 b1 (a2.trans (hxy.trans b2.symm))
  · obtain ⟨q0, a1, a2⟩ := key k q hk
    rw [← a2]; exact h.2 k q0 a1
theorem gx_free (C : GC p s m args c cc nL own Ts D cl tys A) {H : Heap} {locs : List Loc} (h3 : va_D A (wd S)) (h4 : va_S A s.heap H locs) : ∀ q, va_A (wd S) H.size q → A q := by
  intro q h
  rcases h with ⟨k, e, hk⟩ | hq
  · exact h3.2 k _ hk
  · exact C.2.2.1 q (Nat.le_trans h4.1 hq)
theorem gx_good (hg : ∀ w ∈ Ts, goodWord w = true) {L : List Cond} (h : ∀ w ∈ L, w ∈ Ts) : GoodIn Ts L := fun w hw => ⟨h w hw, good_of_word (hg w (h w hw))⟩
theorem gx_cwV (C : GC p s m args c cc nL own Ts D cl tys A) {y : MethodName} {bytes : ByteArray} {maxL index : Nat} {ret : Option FieldType} {rm : Room} {Cn : String} (n : Nat) (h1 : Cond.methodLink own index y ∈ Ts) (h2 : Cond.instanceMethod y ∈ Ts) (h3 : Cond.selects Cn y y ∈ Ts) (h4 : Cond.initialized Cn ∈ Ts) (h5 : Cond.code y bytes maxL ret ∈ Ts) (hrc : rm.cells = 0) (hrs : rm.slots = 0) (hd : y.cls = Cn ∧ y.cls ≠ "java/lang/invoke/MethodHandle" ∧ y.cls ≠ "java/lang/invoke/VarHandle" ∧ (parseMethodDescriptor y.desc).map (fun d => d.parameters.length) = some n) (hR : rm.frames + 1 ≤ R.frames ∧ 8 + (maxL + 11) + rm.locals ≤ R.locals) : CallW R s args own Cn index y bytes maxL ret (Cond.code y bytes maxL ret :: Ts) rm 0 0 n := by
  refine cwV n C.1.2.2.2.2 (gx_good C.2.2.2 ?_) rfl hrc hrs hd hR
  intro w hw
  unfold wsV at hw
  rcases List.mem_append.mp hw with hw | hw
  · rcases List.mem_cons.mp hw with rfl | hw
    · exact h1
    · rcases List.mem_cons.mp hw with rfl | hw
      · exact h2
      · rcases List.mem_cons.mp hw with rfl | hw
        · exact h3
        · rw [List.mem_singleton.mp hw]; exact h4
  · rcases List.mem_cons.mp hw with rfl | hw
    · exact h5
    · exact hw
theorem gx_cwS (C : GC p s m args c cc nL own Ts D cl tys A) {y : MethodName} {bytes : ByteArray} {maxL index : Nat} {ret : Option FieldType} {rm : Room} (n : Nat) (h1 : Cond.methodLink own index y ∈ Ts) (h2 : Cond.static y ∈ Ts) (h4 : Cond.initialized own ∈ Ts) (h5 : Cond.code y bytes maxL ret ∈ Ts) (hrc : rm.cells = 0) (hrs : rm.slots = 0) (hd : y.cls = own ∧ y.cls ≠ "java/lang/invoke/MethodHandle" ∧ y.cls ≠ "java/lang/invoke/VarHandle" ∧ (parseMethodDescriptor y.desc).map (fun d => d.parameters.length) = some n) (hR : rm.frames + 1 ≤ R.frames ∧ 8 + (maxL + 11) + rm.locals ≤ R.locals) : CallB R s args own index y bytes maxL ret (Cond.code y bytes maxL ret :: Ts) rm 0 0 n ∧ (Cond.static y).before args s = true := by
  refine cwS n C.1.2.2.2.2 (gx_good C.2.2.2 ?_) rfl hrc hrs hd hR
  intro w hw
  unfold wsS at hw
  rcases List.mem_append.mp hw with hw | hw
  · rcases List.mem_cons.mp hw with rfl | hw
    · exact h1
    · rcases List.mem_cons.mp hw with rfl | hw
      · exact h2
      · rw [List.mem_singleton.mp hw]; exact h4
  · rcases List.mem_cons.mp hw with rfl | hw
    · exact h5
    · exact hw
theorem gx_calli (C : GC p s m args c cc nL own Ts D cl tys A) {y : MethodName} {rm : Room} {bytes : ByteArray} {maxL n index q b ci N : Nat} {ret : Option FieldType} {Cn : String} {T : u_T} {fs : GS → List Value} {As rest : List Value} {post : Int32 → GS → Prop} (hM : MetI l y (Cond.code y bytes maxL ret :: Ts) rm D cl tys wd (.ref b :: As) S post) (cw : CallW R s args own Cn index y bytes maxL ret (Cond.code y bytes maxL ret :: Ts) rm 0 0 n) (ho : GO wd cl q b ci Cn T N fs) (hn : As.length = n) (hw : (rest.map fun v => v.category).sum ≤ 8) (d : decode cc pc = .ok (.invokevirtual index, 3)) (hAd : ∀ S' : GS, (wd S').map (fun q => q.1) = (wd S).map (fun q => q.1)) {st0 : List Value} (hst : st0 = As.reverse ++ .ref b :: rest) (kk : ∀ (r : Int32) (S' : GS), post r S' → GV p l e R s m args below meth c Q nL D cl A wd S' (pc + 3) L (.int r :: rest)) : GV p l e R s m args below meth c Q nL D cl A wd S pc L st0 := by
  intro H locs ls h1 h2 h3 h4
  have hFc := gx_free C h3 h4
  refine va_calli (va_runV (As := As) (rest := rest) C.1 (hM H.size) cw ⟨gx_blind, va_recv C.2.1 h2 ho.2 (ho.1 S), fun U hU hW => ⟨rfl, by rw [hU], by rw [hU]; exact h2, va_K.moved hW.alike C.2.1, h3.weaken (fun _ _ _ _ => trivial)⟩⟩ rfl hn h1.1 hst (lv_room hw) d ⟨Nat.zero_le _, Nat.zero_le _⟩) h4 (fun q _ h => hFc q h) hFc (fun r u t H1 locs1 ht hvm hp hB hz hk hS => ?_)
  obtain ⟨hP1, hK1, hD1⟩ := hB
  rw [ht] at hP1
  exact kk r u hp H1 locs1 ls h1 hP1 (gx_D (hAd u) h3) hS
theorem gx_callv (C : GC p s m args c cc nL own Ts D cl tys A) {y : MethodName} {rm : Room} {bytes : ByteArray} {maxL n index q b ci N : Nat} {ret : Option FieldType} {Cn : String} {T : u_T} {fs : GS → List Value} {As rest : List Value} {post : GS → Prop} (hM : MetV l y (Cond.code y bytes maxL ret :: Ts) rm D cl tys wd (.ref b :: As) S post) (cw : CallW R s args own Cn index y bytes maxL ret (Cond.code y bytes maxL ret :: Ts) rm 0 0 n) (ho : GO wd cl q b ci Cn T N fs) (hn : As.length = n) (hw : (rest.map fun v => v.category).sum ≤ 8) (d : decode cc pc = .ok (.invokevirtual index, 3)) (hAd : ∀ S' : GS, (wd S').map (fun q => q.1) = (wd S).map (fun q => q.1)) {st0 : List Value} (hst : st0 = As.reverse ++ .ref b :: rest) (kk : ∀ (S' : GS), post S' → GV p l e R s m args below meth c Q nL D cl A wd S' (pc + 3) L rest) : GV p l e R s m args below meth c Q nL D cl A wd S pc L st0 := by
  intro H locs ls h1 h2 h3 h4
  have hFc := gx_free C h3 h4
  refine va_callv (va_runV (As := As) (rest := rest) C.1 (hM H.size) cw ⟨gx_blind, va_recv C.2.1 h2 ho.2 (ho.1 S), fun U hU hW => ⟨rfl, by rw [hU], by rw [hU]; exact h2, va_K.moved hW.alike C.2.1, h3.weaken (fun _ _ _ _ => trivial)⟩⟩ rfl hn h1.1 hst (lv_room hw) d ⟨Nat.zero_le _, Nat.zero_le _⟩) h4 (fun q _ h => hFc q h) hFc (fun u t H1 locs1 ht hvm hp hB hz hk hS => ?_)
  obtain ⟨hP1, hK1, hD1⟩ := hB
  rw [ht] at hP1
  exact kk u hp H1 locs1 ls h1 hP1 (gx_D (hAd u) h3) hS
theorem gx_calls (C : GC p s m args c cc nL own Ts D cl tys A) {y : MethodName} {rm : Room} {bytes : ByteArray} {maxL n index : Nat} {ret : Option FieldType} {As rest : List Value} {post : Int32 → GS → Prop} (hM : MetI l y (Cond.code y bytes maxL ret :: Ts) rm D cl tys wd As S post) (cw : CallB R s args own index y bytes maxL ret (Cond.code y bytes maxL ret :: Ts) rm 0 0 n ∧ (Cond.static y).before args s = true) (hn : As.length = n) (hw : (rest.map fun v => v.category).sum ≤ 8) (d : decode cc pc = .ok (.invokestatic index, 3)) (hAd : ∀ S' : GS, (wd S').map (fun q => q.1) = (wd S).map (fun q => q.1)) {st0 : List Value} (hst : st0 = As.reverse ++ rest) (kk : ∀ (r : Int32) (S' : GS), post r S' → GV p l e R s m args below meth c Q nL D cl A wd S' (pc + 3) L (.int r :: rest)) : GV p l e R s m args below meth c Q nL D cl A wd S pc L st0 := by
  intro H locs ls h1 h2 h3 h4
  have hFc := gx_free C h3 h4
  refine va_calli (va_runS (As := As) (rest := rest) C.1 (hM H.size) cw ⟨gx_blind, fun U hU hW => ⟨rfl, by rw [hU], by rw [hU]; exact h2, va_K.moved hW.alike C.2.1, h3.weaken (fun _ _ _ _ => trivial)⟩⟩ rfl hn h1.1 hst (lv_room hw) d ⟨Nat.zero_le _, Nat.zero_le _⟩) h4 (fun q _ h => hFc q h) hFc (fun r u t H1 locs1 ht hvm hp hB hz hk hS => ?_)
  obtain ⟨hP1, hK1, hD1⟩ := hB
  rw [ht] at hP1
  exact kk r u hp H1 locs1 ls h1 hP1 (gx_D (hAd u) h3) hS
theorem gx_iret (C : GC p s m args c cc nL own Ts D cl tys A) {post : Int32 → GS → Prop} {r : Int32} (hr : meth.sig.returnType = some .int) (hlocks : meth.locks = false) (d : decode cc pc = .ok (.ireturn, 1)) (hp : post r S) : GV p l e R s m args below meth c (MQ below (va_Qi post (GB wd D cl tys A) A) args s 0 0 A) nL D cl A wd S pc L [.int r] :=
  fun H locs ls h1 h2 h3 h4 => W.iret C.1.1 C.1.2.1 hr (fun t ht hW => ⟨⟨r, S, rfl, hp, by rw [ht]; exact h2, va_K.moved hW.alike C.2.1, h3⟩, h4.F ht⟩) h4.2.2 d hlocks
theorem gx_zret (C : GC p s m args c cc nL own Ts D cl tys A) {post : Int32 → GS → Prop} {r : Int32} (hr : meth.sig.returnType = some .boolean) (hlocks : meth.locks = false) (d : decode cc pc = .ok (.ireturn, 1)) (hp : post r S) (hn : narrow .boolean (.int r) = .int r) : GV p l e R s m args below meth c (MQ below (va_Qi post (GB wd D cl tys A) A) args s 0 0 A) nL D cl A wd S pc L [.int r] :=
  fun H locs ls h1 h2 h3 h4 => W.zret C.1.1 C.1.2.1 hr hn (fun t ht hW => ⟨⟨r, S, rfl, hp, by rw [ht]; exact h2, va_K.moved hW.alike C.2.1, h3⟩, h4.F ht⟩) h4.2.2 d hlocks
theorem gx_vret (C : GC p s m args c cc nL own Ts D cl tys A) {post : GS → Prop} (hr : meth.sig.returnType = none) (hlocks : meth.locks = false) (d : decode cc pc = .ok (.return_, 1)) (hp : post S) : GV p l e R s m args below meth c (MQ below (va_Qv post (GB wd D cl tys A) A) args s 0 0 A) nL D cl A wd S pc L [] :=
  fun H locs ls h1 h2 h3 h4 => W.vret C.1.1 C.1.2.1 hr (fun t ht hW => ⟨⟨S, rfl, hp, by rw [ht]; exact h2, va_K.moved hW.alike C.2.1, h3⟩, h4.F ht⟩) h4.2.2 d hlocks
end GXA
/-! a method's contract out of its walk -/
theorem gx_metI {l : Launch} {y : MethodName} {Ts : List Cond} {rm : Room} {cc : ByteArray} {maxL : Nat} {D : va_G} {cl : List vw_C} {tys : List (ClassId × FieldType)} {wd : GS → va_W} {av : List Value} {S : GS} {post : Int32 → GS → Prop} {ret : Option FieldType} (hy : plainName y.cls = true) (hgood : ∀ w ∈ Ts, goodWord w = true) (hlen : (lg_sl av).length ≤ maxL)
    (body : ∀ (p : Program) (e : Env) (s : State) (m : MethodId) (args : Array Value) (below : List Frame) (meth : Method) (c : Code) (A : Nat → Prop), GC p s m args c cc maxL y.cls Ts D cl tys A → meth.sig.returnType = ret → meth.locks = false → GV p l e rm s m args below meth c (MQ below (va_Qi post (GB wd D cl tys A) A) args s 0 0 A) maxL D cl A wd S 0 (lv_args 0 av) []) : MetI l y (Cond.code y cc maxL ret :: Ts) rm D cl tys wd av S post := by
  intro sz
  refine Met.ofW (cc := cc) (maxL := maxL) (ret := ret) hy rfl ?_
  intro p e s m args below meth c s₁ B hml hv
  obtain ⟨rfl, hsz, hP, hK, hD0⟩ := hv
  subst hsz
  rw [lg_entry_eq]
  refine body p e s m av.toArray below meth c (va_A (wd S) s.heap.size) ⟨⟨B.exec, B.bytes, hml, findClass_of_methodNamed B.named, fun w hw => atoms_spec (ws := Cond.code y cc maxL ret :: Ts) B.pre w (List.mem_cons_of_mem _ hw)⟩, hK, fun q h => Or.inr h, hgood⟩ B.returns B.notSynchronized s.heap [] _ (lv_entry av hlen) hP hD0.self va_S.rf
theorem gx_metV {l : Launch} {y : MethodName} {Ts : List Cond} {rm : Room} {cc : ByteArray} {maxL : Nat} {D : va_G} {cl : List vw_C} {tys : List (ClassId × FieldType)} {wd : GS → va_W} {av : List Value} {S : GS} {post : GS → Prop} {ret : Option FieldType} (hy : plainName y.cls = true) (hgood : ∀ w ∈ Ts, goodWord w = true) (hlen : (lg_sl av).length ≤ maxL)
    (body : ∀ (p : Program) (e : Env) (s : State) (m : MethodId) (args : Array Value) (below : List Frame) (meth : Method) (c : Code) (A : Nat → Prop), GC p s m args c cc maxL y.cls Ts D cl tys A → meth.sig.returnType = ret → meth.locks = false → GV p l e rm s m args below meth c (MQ below (va_Qv post (GB wd D cl tys A) A) args s 0 0 A) maxL D cl A wd S 0 (lv_args 0 av) []) : MetV l y (Cond.code y cc maxL ret :: Ts) rm D cl tys wd av S post := by
  intro sz
  refine Met.ofW (cc := cc) (maxL := maxL) (ret := ret) hy rfl ?_
  intro p e s m args below meth c s₁ B hml hv
  obtain ⟨rfl, hsz, hP, hK, hD0⟩ := hv
  subst hsz
  rw [lg_entry_eq]
  refine body p e s m av.toArray below meth c (va_A (wd S) s.heap.size) ⟨⟨B.exec, B.bytes, hml, findClass_of_methodNamed B.named, fun w hw => atoms_spec (ws := Cond.code y cc maxL ret :: Ts) B.pre w (List.mem_cons_of_mem _ hw)⟩, hK, fun q h => Or.inr h, hgood⟩ B.returns B.notSynchronized s.heap [] _ (lv_entry av hlen) hP hD0.self va_S.rf
end
section
/-! The two worlds: the class's objects (o 0: CountedObjects, o 5: its FreeChunks) and its arrays, and the reference's. -/
def xw (cI cZ : ClassId) (o : Nat → Nat) (W E : Nat) (S : GS) : va_W :=
  [(o 0, .inr (0, [.ref (o 1), .ref (o 2), .ref (o 3), .ref (o 4), .ref (o 5), .ref (o 6), .ref (o 7), .int (S 100 1)])), (o 1, .inl (cI, W, .inl (S 0))), (o 2, .inl (cI, E + 1, .inl (S 1))), (o 3, .inl (cI, E + 1, .inl (S 2))), (o 4, .inl (cI, 8, .inl (S 3))),
    (o 5, .inr (1, [.ref (o 8), .ref (o 9), .int (S 100 0)])), (o 6, .inl (cZ, E + 1, .inl (S 4))), (o 7, .inl (cI, E, .inl (S 5))), (o 8, .inl (cI, W, .inl (S 6))), (o 9, .inl (cI, W, .inl (S 7)))]
section XWA
variable {cI cZ : ClassId} {o : Nat → Nat} {W E : Nat}
theorem xw_ad (S S' : GS) : (xw cI cZ o W E S').map (fun q => q.1) = (xw cI cZ o W E S).map (fun q => q.1) := rfl
theorem xa_words : GA (xw cI cZ o W E) [(cI, .int), (cZ, .boolean)] 1 (o 1) 0 W .int := ⟨cI, 0, fun _ => rfl, fun _ _ => rfl, rfl⟩
theorem xa_addresses : GA (xw cI cZ o W E) [(cI, .int), (cZ, .boolean)] 2 (o 2) 1 (E + 1) .int := ⟨cI, 0, fun _ => rfl, fun _ _ => rfl, rfl⟩
theorem xa_counts : GA (xw cI cZ o W E) [(cI, .int), (cZ, .boolean)] 3 (o 3) 2 (E + 1) .int := ⟨cI, 0, fun _ => rfl, fun _ _ => rfl, rfl⟩
theorem xa_registers : GA (xw cI cZ o W E) [(cI, .int), (cZ, .boolean)] 4 (o 4) 3 8 .int := ⟨cI, 0, fun _ => rfl, fun _ _ => rfl, rfl⟩
theorem xa_isReached : GA (xw cI cZ o W E) [(cI, .int), (cZ, .boolean)] 6 (o 6) 4 (E + 1) .boolean := ⟨cZ, 1, fun _ => rfl, fun _ _ => rfl, rfl⟩
theorem xa_reachedEntries : GA (xw cI cZ o W E) [(cI, .int), (cZ, .boolean)] 7 (o 7) 5 E .int := ⟨cI, 0, fun _ => rfl, fun _ _ => rfl, rfl⟩
theorem xa_starts : GA (xw cI cZ o W E) [(cI, .int), (cZ, .boolean)] 8 (o 8) 6 W .int := ⟨cI, 0, fun _ => rfl, fun _ _ => rfl, rfl⟩
theorem xa_sizes : GA (xw cI cZ o W E) [(cI, .int), (cZ, .boolean)] 9 (o 9) 7 W .int := ⟨cI, 0, fun _ => rfl, fun _ _ => rfl, rfl⟩
theorem xo_this : GO (xw cI cZ o W E) gx_cl 0 (o 0) 0 RX TX 8 (fun S => [.ref (o 1), .ref (o 2), .ref (o 3), .ref (o 4), .ref (o 5), .ref (o 6), .ref (o 7), .int (S 100 1)]) := ⟨fun _ => rfl, rfl⟩
theorem xo_fc : GO (xw cI cZ o W E) gx_cl 5 (o 5) 1 RF TF 3 (fun S => [.ref (o 8), .ref (o 9), .int (S 100 0)]) := ⟨fun _ => rfl, rfl⟩
theorem xp_held (S : GS) (v : Int32) : (xw cI cZ o W E S).set 5 (o 5, .inr (1, (([.ref (o 8), .ref (o 9), .int (S 100 0)] : List Value)).set 2 (.int v))) = xw cI cZ o W E (gx_set 100 0 v S) := rfl
theorem xp_reachedHeld (S : GS) (v : Int32) : (xw cI cZ o W E S).set 0 (o 0, .inr (0, (([.ref (o 1), .ref (o 2), .ref (o 3), .ref (o 4), .ref (o 5), .ref (o 6), .ref (o 7), .int (S 100 1)] : List Value)).set 7 (.int v))) = xw cI cZ o W E (gx_set 100 1 v S) := rfl
end XWA
def mw (cI cZ : ClassId) (o : Nat → Nat) (S : GS) : va_W :=
  [(o 0, .inr (2, [.int (S 100 0), .int (S 100 1), .int (S 100 2), .ref (o 1), .ref (o 2), .ref (o 3), .ref (o 4), .ref (o 5), .ref (o 6), .int (S 100 3), .ref (o 7), .ref (o 8), .ref (o 9), .int (S 100 4), .int (S 100 5), .ref (o 10), .ref (o 11), .ref (o 12)])), (o 1, .inl (cI, 8, .inl (S 0))), (o 2, .inl (cZ, 41, .inl (S 1))), (o 3, .inl (cI, 41, .inl (S 2))), (o 4, .inl (cI, 41, .inl (S 3))),
    (o 5, .inl (cI, 41, .inl (S 4))), (o 6, .inl (cI, 400, .inl (S 5))), (o 7, .inl (cI, 400, .inl (S 6))), (o 8, .inl (cI, 400, .inl (S 7))), (o 9, .inl (cI, 400, .inl (S 8))), (o 10, .inl (cI, 41, .inl (S 9))), (o 11, .inl (cI, 41, .inl (S 10))), (o 12, .inl (cZ, 41, .inl (S 11)))]
section MWA
variable {cI cZ : ClassId} {o : Nat → Nat}
theorem mw_ad (S S' : GS) : (mw cI cZ o S').map (fun q => q.1) = (mw cI cZ o S).map (fun q => q.1) := rfl
theorem ma_registers : GA (mw cI cZ o) [(cI, .int), (cZ, .boolean)] 1 (o 1) 0 8 .int := ⟨cI, 0, fun _ => rfl, fun _ _ => rfl, rfl⟩
theorem ma_lives : GA (mw cI cZ o) [(cI, .int), (cZ, .boolean)] 2 (o 2) 1 41 .boolean := ⟨cZ, 1, fun _ => rfl, fun _ _ => rfl, rfl⟩
theorem ma_addresses : GA (mw cI cZ o) [(cI, .int), (cZ, .boolean)] 3 (o 3) 2 41 .int := ⟨cI, 0, fun _ => rfl, fun _ _ => rfl, rfl⟩
theorem ma_sizes : GA (mw cI cZ o) [(cI, .int), (cZ, .boolean)] 4 (o 4) 3 41 .int := ⟨cI, 0, fun _ => rfl, fun _ _ => rfl, rfl⟩
theorem ma_counts : GA (mw cI cZ o) [(cI, .int), (cZ, .boolean)] 5 (o 5) 4 41 .int := ⟨cI, 0, fun _ => rfl, fun _ _ => rfl, rfl⟩
theorem ma_word : GA (mw cI cZ o) [(cI, .int), (cZ, .boolean)] 6 (o 6) 5 400 .int := ⟨cI, 0, fun _ => rfl, fun _ _ => rfl, rfl⟩
theorem ma_begins : GA (mw cI cZ o) [(cI, .int), (cZ, .boolean)] 7 (o 7) 6 400 .int := ⟨cI, 0, fun _ => rfl, fun _ _ => rfl, rfl⟩
theorem ma_lengths : GA (mw cI cZ o) [(cI, .int), (cZ, .boolean)] 8 (o 8) 7 400 .int := ⟨cI, 0, fun _ => rfl, fun _ _ => rfl, rfl⟩
theorem ma_came : GA (mw cI cZ o) [(cI, .int), (cZ, .boolean)] 9 (o 9) 8 400 .int := ⟨cI, 0, fun _ => rfl, fun _ _ => rfl, rfl⟩
theorem ma_goes : GA (mw cI cZ o) [(cI, .int), (cZ, .boolean)] 10 (o 10) 9 41 .int := ⟨cI, 0, fun _ => rfl, fun _ _ => rfl, rfl⟩
theorem ma_next : GA (mw cI cZ o) [(cI, .int), (cZ, .boolean)] 11 (o 11) 10 41 .int := ⟨cI, 0, fun _ => rfl, fun _ _ => rfl, rfl⟩
theorem ma_reached : GA (mw cI cZ o) [(cI, .int), (cZ, .boolean)] 12 (o 12) 11 41 .boolean := ⟨cZ, 1, fun _ => rfl, fun _ _ => rfl, rfl⟩
abbrev mo_fs (o : Nat → Nat) (S : GS) : List Value := [.int (S 100 0), .int (S 100 1), .int (S 100 2), .ref (o 1), .ref (o 2), .ref (o 3), .ref (o 4), .ref (o 5), .ref (o 6), .int (S 100 3), .ref (o 7), .ref (o 8), .ref (o 9), .int (S 100 4), .int (S 100 5), .ref (o 10), .ref (o 11), .ref (o 12)]
theorem mo_this : GO (mw cI cZ o) gx_cl 0 (o 0) 2 RM TM 18 (fun S => mo_fs o S) := ⟨fun _ => rfl, rfl⟩
theorem mp_thrown (S : GS) (v : Int32) : (mw cI cZ o S).set 0 (o 0, .inr (2, (mo_fs o S).set 0 (.int v))) = mw cI cZ o (gx_set 100 0 v S) := rfl
theorem mp_frees (S : GS) (v : Int32) : (mw cI cZ o S).set 0 (o 0, .inr (2, (mo_fs o S).set 9 (.int v))) = mw cI cZ o (gx_set 100 3 v S) := rfl
theorem mp_clock (S : GS) (v : Int32) : (mw cI cZ o S).set 0 (o 0, .inr (2, (mo_fs o S).set 13 (.int v))) = mw cI cZ o (gx_set 100 4 v S) := rfl
theorem mp_going (S : GS) (v : Int32) : (mw cI cZ o S).set 0 (o 0, .inr (2, (mo_fs o S).set 14 (.int v))) = mw cI cZ o (gx_set 100 5 v S) := rfl
end MWA
theorem ln_X_144 : Cond.methodLink RX 144 arraycopyName ∈ wsA := wsA_in (i := 130) (by decide +kernel) (by decide +kernel)
theorem ln_F_34 : Cond.methodLink RF 34 arraycopyName ∈ wsA := wsA_in (i := 291) (by decide +kernel) (by decide +kernel)
theorem na_copy : Cond.native arraycopyName ∈ wsA := wsA_in (i := 132) (by decide +kernel) (by decide +kernel)
theorem sm_copy : Cond.static arraycopyName ∈ wsA := wsA_in (i := 131) (by decide +kernel) (by decide +kernel)
end
section
theorem dF_init_0 : decode cF_init 0 = .ok (.aload_n 0, 1) := by decide +kernel
theorem dF_init_1 : decode cF_init 1 = .ok (.invokespecial 3, 3) := by decide +kernel
theorem dF_init_4 : decode cF_init 4 = .ok (.aload_n 0, 1) := by decide +kernel
theorem dF_init_5 : decode cF_init 5 = .ok (.iload_n 1, 1) := by decide +kernel
theorem dF_init_6 : decode cF_init 6 = .ok (.newarray .int, 2) := by decide +kernel
theorem dF_init_8 : decode cF_init 8 = .ok (.putfield 9, 3) := by decide +kernel
theorem dF_init_11 : decode cF_init 11 = .ok (.aload_n 0, 1) := by decide +kernel
theorem dF_init_12 : decode cF_init 12 = .ok (.iload_n 1, 1) := by decide +kernel
theorem dF_init_13 : decode cF_init 13 = .ok (.newarray .int, 2) := by decide +kernel
theorem dF_init_15 : decode cF_init 15 = .ok (.putfield 15, 3) := by decide +kernel
theorem dF_init_18 : decode cF_init 18 = .ok (.aload_n 0, 1) := by decide +kernel
theorem dF_init_19 : decode cF_init 19 = .ok (.getfield 15, 3) := by decide +kernel
theorem dF_init_22 : decode cF_init 22 = .ok (.iconst 0, 1) := by decide +kernel
theorem dF_init_23 : decode cF_init 23 = .ok (.iload_n 1, 1) := by decide +kernel
theorem dF_init_24 : decode cF_init 24 = .ok (.iastore, 1) := by decide +kernel
theorem dF_init_25 : decode cF_init 25 = .ok (.aload_n 0, 1) := by decide +kernel
theorem dF_init_26 : decode cF_init 26 = .ok (.iconst 1, 1) := by decide +kernel
theorem dF_init_27 : decode cF_init 27 = .ok (.putfield 18, 3) := by decide +kernel
theorem dF_init_30 : decode cF_init 30 = .ok (.return_, 1) := by decide +kernel
theorem dF_add_0 : decode cF_add 0 = .ok (.aload_n 0, 1) := by decide +kernel
theorem dF_add_1 : decode cF_add 1 = .ok (.getfield 9, 3) := by decide +kernel
theorem dF_add_4 : decode cF_add 4 = .ok (.aload_n 0, 1) := by decide +kernel
theorem dF_add_5 : decode cF_add 5 = .ok (.getfield 18, 3) := by decide +kernel
theorem dF_add_8 : decode cF_add 8 = .ok (.iload_n 1, 1) := by decide +kernel
theorem dF_add_9 : decode cF_add 9 = .ok (.iastore, 1) := by decide +kernel
theorem dF_add_10 : decode cF_add 10 = .ok (.aload_n 0, 1) := by decide +kernel
theorem dF_add_11 : decode cF_add 11 = .ok (.getfield 15, 3) := by decide +kernel
theorem dF_add_14 : decode cF_add 14 = .ok (.aload_n 0, 1) := by decide +kernel
theorem dF_add_15 : decode cF_add 15 = .ok (.getfield 18, 3) := by decide +kernel
theorem dF_add_18 : decode cF_add 18 = .ok (.iload_n 2, 1) := by decide +kernel
theorem dF_add_19 : decode cF_add 19 = .ok (.iastore, 1) := by decide +kernel
theorem dF_add_20 : decode cF_add 20 = .ok (.aload_n 0, 1) := by decide +kernel
theorem dF_add_21 : decode cF_add 21 = .ok (.dup, 1) := by decide +kernel
theorem dF_add_22 : decode cF_add 22 = .ok (.getfield 18, 3) := by decide +kernel
theorem dF_add_25 : decode cF_add 25 = .ok (.iconst 1, 1) := by decide +kernel
theorem dF_add_26 : decode cF_add 26 = .ok (.iadd, 1) := by decide +kernel
theorem dF_add_27 : decode cF_add 27 = .ok (.putfield 18, 3) := by decide +kernel
theorem dF_add_30 : decode cF_add 30 = .ok (.return_, 1) := by decide +kernel
theorem dF_clear_0 : decode cF_clear 0 = .ok (.aload_n 0, 1) := by decide +kernel
theorem dF_clear_1 : decode cF_clear 1 = .ok (.iconst 0, 1) := by decide +kernel
theorem dF_clear_2 : decode cF_clear 2 = .ok (.putfield 18, 3) := by decide +kernel
theorem dF_clear_5 : decode cF_clear 5 = .ok (.return_, 1) := by decide +kernel
theorem dF_take_0 : decode cF_take 0 = .ok (.aload_n 0, 1) := by decide +kernel
theorem dF_take_1 : decode cF_take 1 = .ok (.iload_n 1, 1) := by decide +kernel
theorem dF_take_2 : decode cF_take 2 = .ok (.invokevirtual 22, 3) := by decide +kernel
theorem dF_take_5 : decode cF_take 5 = .ok (.istore_n 2, 1) := by decide +kernel
theorem dF_take_6 : decode cF_take 6 = .ok (.iload_n 2, 1) := by decide +kernel
theorem dF_take_7 : decode cF_take 7 = .ok (.iconst (-1), 1) := by decide +kernel
theorem dF_take_8 : decode cF_take 8 = .ok (.if_icmp .ne 5, 3) := by decide +kernel
theorem dF_take_11 : decode cF_take 11 = .ok (.iconst (-1), 1) := by decide +kernel
theorem dF_take_12 : decode cF_take 12 = .ok (.ireturn, 1) := by decide +kernel
theorem dF_take_13 : decode cF_take 13 = .ok (.aload_n 0, 1) := by decide +kernel
theorem dF_take_14 : decode cF_take 14 = .ok (.getfield 9, 3) := by decide +kernel
theorem dF_take_17 : decode cF_take 17 = .ok (.iload_n 2, 1) := by decide +kernel
theorem dF_take_18 : decode cF_take 18 = .ok (.iaload, 1) := by decide +kernel
theorem dF_take_19 : decode cF_take 19 = .ok (.istore_n 3, 1) := by decide +kernel
theorem dF_take_20 : decode cF_take 20 = .ok (.aload_n 0, 1) := by decide +kernel
theorem dF_take_21 : decode cF_take 21 = .ok (.getfield 15, 3) := by decide +kernel
theorem dF_take_24 : decode cF_take 24 = .ok (.iload_n 2, 1) := by decide +kernel
theorem dF_take_25 : decode cF_take 25 = .ok (.iaload, 1) := by decide +kernel
theorem dF_take_26 : decode cF_take 26 = .ok (.iload_n 1, 1) := by decide +kernel
theorem dF_take_27 : decode cF_take 27 = .ok (.isub, 1) := by decide +kernel
theorem dF_take_28 : decode cF_take 28 = .ok (.istore 4, 2) := by decide +kernel
theorem dF_take_30 : decode cF_take 30 = .ok (.aload_n 0, 1) := by decide +kernel
theorem dF_take_31 : decode cF_take 31 = .ok (.iload_n 2, 1) := by decide +kernel
theorem dF_take_32 : decode cF_take 32 = .ok (.invokevirtual 26, 3) := by decide +kernel
theorem dF_take_35 : decode cF_take 35 = .ok (.iload 4, 2) := by decide +kernel
theorem dF_take_37 : decode cF_take 37 = .ok (.ifCond .le 12, 3) := by decide +kernel
theorem dF_take_40 : decode cF_take 40 = .ok (.aload_n 0, 1) := by decide +kernel
theorem dF_take_41 : decode cF_take 41 = .ok (.iload_n 3, 1) := by decide +kernel
theorem dF_take_42 : decode cF_take 42 = .ok (.iload_n 1, 1) := by decide +kernel
theorem dF_take_43 : decode cF_take 43 = .ok (.iadd, 1) := by decide +kernel
theorem dF_take_44 : decode cF_take 44 = .ok (.iload 4, 2) := by decide +kernel
theorem dF_take_46 : decode cF_take 46 = .ok (.invokevirtual 30, 3) := by decide +kernel
theorem dF_take_49 : decode cF_take 49 = .ok (.iload_n 3, 1) := by decide +kernel
theorem dF_take_50 : decode cF_take 50 = .ok (.ireturn, 1) := by decide +kernel
theorem dF_bestFor_0 : decode cF_bestFor 0 = .ok (.iconst (-1), 1) := by decide +kernel
theorem dF_bestFor_1 : decode cF_bestFor 1 = .ok (.istore_n 2, 1) := by decide +kernel
theorem dF_bestFor_2 : decode cF_bestFor 2 = .ok (.aload_n 0, 1) := by decide +kernel
theorem dF_bestFor_3 : decode cF_bestFor 3 = .ok (.getfield 18, 3) := by decide +kernel
theorem dF_bestFor_6 : decode cF_bestFor 6 = .ok (.iconst 1, 1) := by decide +kernel
theorem dF_bestFor_7 : decode cF_bestFor 7 = .ok (.isub, 1) := by decide +kernel
theorem dF_bestFor_8 : decode cF_bestFor 8 = .ok (.istore_n 3, 1) := by decide +kernel
theorem dF_bestFor_9 : decode cF_bestFor 9 = .ok (.iload_n 3, 1) := by decide +kernel
theorem dF_bestFor_10 : decode cF_bestFor 10 = .ok (.ifCond .lt 41, 3) := by decide +kernel
theorem dF_bestFor_13 : decode cF_bestFor 13 = .ok (.aload_n 0, 1) := by decide +kernel
theorem dF_bestFor_14 : decode cF_bestFor 14 = .ok (.getfield 15, 3) := by decide +kernel
theorem dF_bestFor_17 : decode cF_bestFor 17 = .ok (.iload_n 3, 1) := by decide +kernel
theorem dF_bestFor_18 : decode cF_bestFor 18 = .ok (.iaload, 1) := by decide +kernel
theorem dF_bestFor_19 : decode cF_bestFor 19 = .ok (.iload_n 1, 1) := by decide +kernel
theorem dF_bestFor_20 : decode cF_bestFor 20 = .ok (.if_icmp .lt 25, 3) := by decide +kernel
theorem dF_bestFor_23 : decode cF_bestFor 23 = .ok (.iload_n 2, 1) := by decide +kernel
theorem dF_bestFor_24 : decode cF_bestFor 24 = .ok (.iconst (-1), 1) := by decide +kernel
theorem dF_bestFor_25 : decode cF_bestFor 25 = .ok (.if_icmp .eq 18, 3) := by decide +kernel
theorem dF_bestFor_28 : decode cF_bestFor 28 = .ok (.aload_n 0, 1) := by decide +kernel
theorem dF_bestFor_29 : decode cF_bestFor 29 = .ok (.getfield 15, 3) := by decide +kernel
theorem dF_bestFor_32 : decode cF_bestFor 32 = .ok (.iload_n 3, 1) := by decide +kernel
theorem dF_bestFor_33 : decode cF_bestFor 33 = .ok (.iaload, 1) := by decide +kernel
theorem dF_bestFor_34 : decode cF_bestFor 34 = .ok (.aload_n 0, 1) := by decide +kernel
theorem dF_bestFor_35 : decode cF_bestFor 35 = .ok (.getfield 15, 3) := by decide +kernel
theorem dF_bestFor_38 : decode cF_bestFor 38 = .ok (.iload_n 2, 1) := by decide +kernel
theorem dF_bestFor_39 : decode cF_bestFor 39 = .ok (.iaload, 1) := by decide +kernel
theorem dF_bestFor_40 : decode cF_bestFor 40 = .ok (.if_icmp .ge 5, 3) := by decide +kernel
theorem dF_bestFor_43 : decode cF_bestFor 43 = .ok (.iload_n 3, 1) := by decide +kernel
theorem dF_bestFor_44 : decode cF_bestFor 44 = .ok (.istore_n 2, 1) := by decide +kernel
theorem dF_bestFor_45 : decode cF_bestFor 45 = .ok (.iinc 3 (-1), 3) := by decide +kernel
theorem dF_bestFor_48 : decode cF_bestFor 48 = .ok (.goto (-39), 3) := by decide +kernel
theorem dF_bestFor_51 : decode cF_bestFor 51 = .ok (.iload_n 2, 1) := by decide +kernel
theorem dF_bestFor_52 : decode cF_bestFor 52 = .ok (.ireturn, 1) := by decide +kernel
theorem dF_remove_0 : decode cF_remove 0 = .ok (.aload_n 0, 1) := by decide +kernel
theorem dF_remove_1 : decode cF_remove 1 = .ok (.dup, 1) := by decide +kernel
theorem dF_remove_2 : decode cF_remove 2 = .ok (.getfield 18, 3) := by decide +kernel
theorem dF_remove_5 : decode cF_remove 5 = .ok (.iconst 1, 1) := by decide +kernel
theorem dF_remove_6 : decode cF_remove 6 = .ok (.isub, 1) := by decide +kernel
theorem dF_remove_7 : decode cF_remove 7 = .ok (.putfield 18, 3) := by decide +kernel
theorem dF_remove_10 : decode cF_remove 10 = .ok (.aload_n 0, 1) := by decide +kernel
theorem dF_remove_11 : decode cF_remove 11 = .ok (.getfield 9, 3) := by decide +kernel
theorem dF_remove_14 : decode cF_remove 14 = .ok (.iload_n 1, 1) := by decide +kernel
theorem dF_remove_15 : decode cF_remove 15 = .ok (.iconst 1, 1) := by decide +kernel
theorem dF_remove_16 : decode cF_remove 16 = .ok (.iadd, 1) := by decide +kernel
theorem dF_remove_17 : decode cF_remove 17 = .ok (.aload_n 0, 1) := by decide +kernel
theorem dF_remove_18 : decode cF_remove 18 = .ok (.getfield 9, 3) := by decide +kernel
theorem dF_remove_21 : decode cF_remove 21 = .ok (.iload_n 1, 1) := by decide +kernel
theorem dF_remove_22 : decode cF_remove 22 = .ok (.aload_n 0, 1) := by decide +kernel
theorem dF_remove_23 : decode cF_remove 23 = .ok (.getfield 18, 3) := by decide +kernel
theorem dF_remove_26 : decode cF_remove 26 = .ok (.iload_n 1, 1) := by decide +kernel
theorem dF_remove_27 : decode cF_remove 27 = .ok (.isub, 1) := by decide +kernel
theorem dF_remove_28 : decode cF_remove 28 = .ok (.invokestatic 34, 3) := by decide +kernel
theorem dF_remove_31 : decode cF_remove 31 = .ok (.aload_n 0, 1) := by decide +kernel
theorem dF_remove_32 : decode cF_remove 32 = .ok (.getfield 15, 3) := by decide +kernel
theorem dF_remove_35 : decode cF_remove 35 = .ok (.iload_n 1, 1) := by decide +kernel
theorem dF_remove_36 : decode cF_remove 36 = .ok (.iconst 1, 1) := by decide +kernel
theorem dF_remove_37 : decode cF_remove 37 = .ok (.iadd, 1) := by decide +kernel
theorem dF_remove_38 : decode cF_remove 38 = .ok (.aload_n 0, 1) := by decide +kernel
theorem dF_remove_39 : decode cF_remove 39 = .ok (.getfield 15, 3) := by decide +kernel
theorem dF_remove_42 : decode cF_remove 42 = .ok (.iload_n 1, 1) := by decide +kernel
theorem dF_remove_43 : decode cF_remove 43 = .ok (.aload_n 0, 1) := by decide +kernel
theorem dF_remove_44 : decode cF_remove 44 = .ok (.getfield 18, 3) := by decide +kernel
theorem dF_remove_47 : decode cF_remove 47 = .ok (.iload_n 1, 1) := by decide +kernel
theorem dF_remove_48 : decode cF_remove 48 = .ok (.isub, 1) := by decide +kernel
theorem dF_remove_49 : decode cF_remove 49 = .ok (.invokestatic 34, 3) := by decide +kernel
theorem dF_remove_52 : decode cF_remove 52 = .ok (.return_, 1) := by decide +kernel
theorem dF_ofSize_0 : decode cF_ofSize 0 = .ok (.iconst 0, 1) := by decide +kernel
theorem dF_ofSize_1 : decode cF_ofSize 1 = .ok (.istore_n 2, 1) := by decide +kernel
theorem dF_ofSize_2 : decode cF_ofSize 2 = .ok (.iconst 0, 1) := by decide +kernel
theorem dF_ofSize_3 : decode cF_ofSize 3 = .ok (.istore_n 3, 1) := by decide +kernel
theorem dF_ofSize_4 : decode cF_ofSize 4 = .ok (.iload_n 3, 1) := by decide +kernel
theorem dF_ofSize_5 : decode cF_ofSize 5 = .ok (.aload_n 0, 1) := by decide +kernel
theorem dF_ofSize_6 : decode cF_ofSize 6 = .ok (.getfield 18, 3) := by decide +kernel
theorem dF_ofSize_9 : decode cF_ofSize 9 = .ok (.if_icmp .ge 22, 3) := by decide +kernel
theorem dF_ofSize_12 : decode cF_ofSize 12 = .ok (.aload_n 0, 1) := by decide +kernel
theorem dF_ofSize_13 : decode cF_ofSize 13 = .ok (.getfield 15, 3) := by decide +kernel
theorem dF_ofSize_16 : decode cF_ofSize 16 = .ok (.iload_n 3, 1) := by decide +kernel
theorem dF_ofSize_17 : decode cF_ofSize 17 = .ok (.iaload, 1) := by decide +kernel
theorem dF_ofSize_18 : decode cF_ofSize 18 = .ok (.iload_n 1, 1) := by decide +kernel
theorem dF_ofSize_19 : decode cF_ofSize 19 = .ok (.if_icmp .ne 6, 3) := by decide +kernel
theorem dF_ofSize_22 : decode cF_ofSize 22 = .ok (.iinc 2 1, 3) := by decide +kernel
theorem dF_ofSize_25 : decode cF_ofSize 25 = .ok (.iinc 3 1, 3) := by decide +kernel
theorem dF_ofSize_28 : decode cF_ofSize 28 = .ok (.goto (-24), 3) := by decide +kernel
theorem dF_ofSize_31 : decode cF_ofSize 31 = .ok (.iload_n 2, 1) := by decide +kernel
theorem dF_ofSize_32 : decode cF_ofSize 32 = .ok (.ireturn, 1) := by decide +kernel
theorem dF_allWords_0 : decode cF_allWords 0 = .ok (.iconst 0, 1) := by decide +kernel
theorem dF_allWords_1 : decode cF_allWords 1 = .ok (.istore_n 1, 1) := by decide +kernel
theorem dF_allWords_2 : decode cF_allWords 2 = .ok (.iconst 0, 1) := by decide +kernel
theorem dF_allWords_3 : decode cF_allWords 3 = .ok (.istore_n 2, 1) := by decide +kernel
theorem dF_allWords_4 : decode cF_allWords 4 = .ok (.iload_n 2, 1) := by decide +kernel
theorem dF_allWords_5 : decode cF_allWords 5 = .ok (.aload_n 0, 1) := by decide +kernel
theorem dF_allWords_6 : decode cF_allWords 6 = .ok (.getfield 18, 3) := by decide +kernel
theorem dF_allWords_9 : decode cF_allWords 9 = .ok (.if_icmp .ge 18, 3) := by decide +kernel
theorem dF_allWords_12 : decode cF_allWords 12 = .ok (.iload_n 1, 1) := by decide +kernel
theorem dF_allWords_13 : decode cF_allWords 13 = .ok (.aload_n 0, 1) := by decide +kernel
theorem dF_allWords_14 : decode cF_allWords 14 = .ok (.getfield 15, 3) := by decide +kernel
theorem dF_allWords_17 : decode cF_allWords 17 = .ok (.iload_n 2, 1) := by decide +kernel
theorem dF_allWords_18 : decode cF_allWords 18 = .ok (.iaload, 1) := by decide +kernel
theorem dF_allWords_19 : decode cF_allWords 19 = .ok (.iadd, 1) := by decide +kernel
theorem dF_allWords_20 : decode cF_allWords 20 = .ok (.istore_n 1, 1) := by decide +kernel
theorem dF_allWords_21 : decode cF_allWords 21 = .ok (.iinc 2 1, 3) := by decide +kernel
theorem dF_allWords_24 : decode cF_allWords 24 = .ok (.goto (-20), 3) := by decide +kernel
theorem dF_allWords_27 : decode cF_allWords 27 = .ok (.iload_n 1, 1) := by decide +kernel
theorem dF_allWords_28 : decode cF_allWords 28 = .ok (.ireturn, 1) := by decide +kernel
end
section
/-- CountedObjects$FreeChunks.add(II)V: a step from head to head -/
def sp_F_add (W E : Nat) (post : GS → Prop) (V : Nat → GS → List Int32 → Prop) (h : Nat) (S : GS) (xs : List Int32) : Prop := match h, xs with
  | 0, [v1, v2] => (vp_in (S 100 0) W ∧ ∀ S1 : GS, S1 = gx_set 6 (S 100 0).toNatClampNeg v1 S → (vp_in (S1 100 0) W ∧ ∀ S2 : GS, S2 = gx_set 7 (S1 100 0).toNatClampNeg v2 S1 → (∀ S3 : GS, S3 = gx_set 100 0 ((S2 100 0) + 1) S2 → post S3)))
  | _, _ => False
def wp_F_add (W E : Nat) (xs : List Int32) (S : GS) (post : GS → Prop) : Prop := ∀ V : Nat → GS → List Int32 → Prop, (∀ h S xs, sp_F_add W E post V h S xs → V h S xs) → V 0 S xs
def vh_F_add (o : Nat → Nat) (G : GS → Nat → List (Nat × Value) → List Value → Prop) (h : Nat) (S : GS) (xs : List Int32) : Prop := match h, xs with
  | 0, [v1, v2] => G S 0 [(0, .ref (o 5)), (1, .int v1), (2, .int v2)] []
  | _, _ => True
set_option maxHeartbeats 4000000 in
set_option maxRecDepth 100000 in
theorem wk_F_add_0 {l : Launch} {dC : Nat → ClassId} {dI : Nat → Nat → Nat} {cI cZ : ClassId} {o : Nat → Nat} {W E : Nat} {p : Program} {e : Env} {s : State} {m : MethodId} {args : Array Value} {below : List Frame} {meth : Method} {c : Code} {A : Nat → Prop} {post : GS → Prop} (C : GC p s m args c cF_add 3 RF wsA (dC, dI) gx_cl [(cI, .int), (cZ, .boolean)] A) (hr : meth.sig.returnType = none) (hlocks : meth.locks = false) (S : GS) (v1 : Int32) (v2 : Int32) (hs : sp_F_add W E post (vh_F_add o (GV p l e { frames := 0, cells := 0, slots := 0, locals := 0 } s m args below meth c (MQ below (va_Qv post (GB (xw cI cZ o W E) (dC, dI) gx_cl [(cI, .int), (cZ, .boolean)] A) A) args s 0 0 A) 3 (dC, dI) gx_cl A (xw cI cZ o W E))) 0 S [v1, v2]) : GV p l e { frames := 0, cells := 0, slots := 0, locals := 0 } s m args below meth c (MQ below (va_Qv post (GB (xw cI cZ o W E) (dC, dI) gx_cl [(cI, .int), (cZ, .boolean)] A) A) args s 0 0 A) 3 (dC, dI) gx_cl A (xw cI cZ o W E) S 0 [(0, .ref (o 5)), (1, .int v1), (2, .int v2)] [] := by
  refine gx_aload_n C dF_add_0 0 rfl rfl ?_
  refine gx_get C xo_fc hi_F 0 (by decide) fl_F_9 rfl dF_add_1 ?_
  refine gx_aload_n C dF_add_4 0 rfl rfl ?_
  refine gx_get C xo_fc hi_F 2 (by decide) fl_F_18 rfl dF_add_5 ?_
  refine gx_iload_n C dF_add_8 1 rfl rfl ?_
  obtain ⟨hin, hs⟩ := hs
  refine gx_iast C xa_starts hin dF_add_9 (fun S1 eS1 => ?_)
  replace hs := hs S1 eS1
  refine gx_aload_n C dF_add_10 0 rfl rfl ?_
  refine gx_get C xo_fc hi_F 1 (by decide) fl_F_15 rfl dF_add_11 ?_
  refine gx_aload_n C dF_add_14 0 rfl rfl ?_
  refine gx_get C xo_fc hi_F 2 (by decide) fl_F_18 rfl dF_add_15 ?_
  refine gx_iload_n C dF_add_18 2 rfl rfl ?_
  obtain ⟨hin, hs⟩ := hs
  refine gx_iast C xa_sizes hin dF_add_19 (fun S2 eS2 => ?_)
  replace hs := hs S2 eS2
  refine gx_aload_n C dF_add_20 0 rfl rfl ?_
  refine gx_dup C dF_add_21 rfl ?_
  refine gx_get C xo_fc hi_F 2 (by decide) fl_F_18 rfl dF_add_22 ?_
  refine gx_iconst (v := 1) C dF_add_25 (by decide) ?_
  refine gx_iadd C dF_add_26 ?_
  refine gx_put C xo_fc hi_F tyF tyF_ok nmF 2 (by decide) fl_F_18 rfl (by decide +kernel) (Nat.le_of_ble_eq_true rfl) (xp_held _ _) dF_add_27 (fun S3 eS3 => ?_)
  replace hs := hs S3 eS3
  exact gx_vret C hr hlocks dF_add_30 hs
set_option maxHeartbeats 4000000 in
set_option maxRecDepth 100000 in
theorem mt_F_add (l : Launch) (dC : Nat → ClassId) (dI : Nat → Nat → Nat) (cI cZ : ClassId) (o : Nat → Nat) (W E : Nat) (v1 : Int32) (v2 : Int32) (S : GS) (post : GS → Prop) (h : wp_F_add W E [v1, v2] S post) : MetV l yF_add (Cond.code yF_add cF_add 3 none :: wsA) ({ frames := 0, cells := 0, slots := 0, locals := 0 }) (dC, dI) gx_cl [(cI, .int), (cZ, .boolean)] (xw cI cZ o W E) [.ref (o 5), .int v1, .int v2] S post := by
  refine gx_metV (by decide) wsA_good (Nat.le_of_ble_eq_true rfl) ?_
  intro p e s m args below meth c A C hr hlocks
  refine h (vh_F_add o (GV p l e { frames := 0, cells := 0, slots := 0, locals := 0 } s m args below meth c (MQ below (va_Qv post (GB (xw cI cZ o W E) (dC, dI) gx_cl [(cI, .int), (cZ, .boolean)] A) A) args s 0 0 A) 3 (dC, dI) gx_cl A (xw cI cZ o W E))) (fun h S xs hs => ?_)
  unfold sp_F_add at hs
  split at hs
  · exact wk_F_add_0 C hr hlocks _ _ _ hs
  · exact hs.elim
/-- CountedObjects$FreeChunks.clear()V: a step from head to head -/
def sp_F_clear (W E : Nat) (post : GS → Prop) (V : Nat → GS → List Int32 → Prop) (h : Nat) (S : GS) (xs : List Int32) : Prop := match h, xs with
  | 0, [] => (∀ S1 : GS, S1 = gx_set 100 0 0 S → post S1)
  | _, _ => False
def wp_F_clear (W E : Nat) (xs : List Int32) (S : GS) (post : GS → Prop) : Prop := ∀ V : Nat → GS → List Int32 → Prop, (∀ h S xs, sp_F_clear W E post V h S xs → V h S xs) → V 0 S xs
def vh_F_clear (o : Nat → Nat) (G : GS → Nat → List (Nat × Value) → List Value → Prop) (h : Nat) (S : GS) (xs : List Int32) : Prop := match h, xs with
  | 0, [] => G S 0 [(0, .ref (o 5))] []
  | _, _ => True
set_option maxHeartbeats 4000000 in
set_option maxRecDepth 100000 in
theorem wk_F_clear_0 {l : Launch} {dC : Nat → ClassId} {dI : Nat → Nat → Nat} {cI cZ : ClassId} {o : Nat → Nat} {W E : Nat} {p : Program} {e : Env} {s : State} {m : MethodId} {args : Array Value} {below : List Frame} {meth : Method} {c : Code} {A : Nat → Prop} {post : GS → Prop} (C : GC p s m args c cF_clear 1 RF wsA (dC, dI) gx_cl [(cI, .int), (cZ, .boolean)] A) (hr : meth.sig.returnType = none) (hlocks : meth.locks = false) (S : GS) (hs : sp_F_clear W E post (vh_F_clear o (GV p l e { frames := 0, cells := 0, slots := 0, locals := 0 } s m args below meth c (MQ below (va_Qv post (GB (xw cI cZ o W E) (dC, dI) gx_cl [(cI, .int), (cZ, .boolean)] A) A) args s 0 0 A) 1 (dC, dI) gx_cl A (xw cI cZ o W E))) 0 S []) : GV p l e { frames := 0, cells := 0, slots := 0, locals := 0 } s m args below meth c (MQ below (va_Qv post (GB (xw cI cZ o W E) (dC, dI) gx_cl [(cI, .int), (cZ, .boolean)] A) A) args s 0 0 A) 1 (dC, dI) gx_cl A (xw cI cZ o W E) S 0 [(0, .ref (o 5))] [] := by
  refine gx_aload_n C dF_clear_0 0 rfl rfl ?_
  refine gx_iconst (v := 0) C dF_clear_1 (by decide) ?_
  refine gx_put C xo_fc hi_F tyF tyF_ok nmF 2 (by decide) fl_F_18 rfl (by decide +kernel) (Nat.le_of_ble_eq_true rfl) (xp_held _ _) dF_clear_2 (fun S1 eS1 => ?_)
  replace hs := hs S1 eS1
  exact gx_vret C hr hlocks dF_clear_5 hs
set_option maxHeartbeats 4000000 in
set_option maxRecDepth 100000 in
theorem mt_F_clear (l : Launch) (dC : Nat → ClassId) (dI : Nat → Nat → Nat) (cI cZ : ClassId) (o : Nat → Nat) (W E : Nat) (S : GS) (post : GS → Prop) (h : wp_F_clear W E [] S post) : MetV l yF_clear (Cond.code yF_clear cF_clear 1 none :: wsA) ({ frames := 0, cells := 0, slots := 0, locals := 0 }) (dC, dI) gx_cl [(cI, .int), (cZ, .boolean)] (xw cI cZ o W E) [.ref (o 5)] S post := by
  refine gx_metV (by decide) wsA_good (Nat.le_of_ble_eq_true rfl) ?_
  intro p e s m args below meth c A C hr hlocks
  refine h (vh_F_clear o (GV p l e { frames := 0, cells := 0, slots := 0, locals := 0 } s m args below meth c (MQ below (va_Qv post (GB (xw cI cZ o W E) (dC, dI) gx_cl [(cI, .int), (cZ, .boolean)] A) A) args s 0 0 A) 1 (dC, dI) gx_cl A (xw cI cZ o W E))) (fun h S xs hs => ?_)
  unfold sp_F_clear at hs
  split at hs
  · exact wk_F_clear_0 C hr hlocks _ hs
  · exact hs.elim
/-- CountedObjects$FreeChunks.bestFor(I)I: a step from head to head -/
def sp_F_bestFor (W E : Nat) (post : Int32 → GS → Prop) (V : Nat → GS → List Int32 → Prop) (h : Nat) (S : GS) (xs : List Int32) : Prop := match h, xs with
  | 0, [v1] => ∀ y1 : Int32, y1 = (-1) → ∀ y2 : Int32, y2 = (S 100 0) - 1 → V 9 S [v1, y1, y2]
  | 9, [v1, v2, v3] => ((v3 < 0 → post v2 S) ∧ (¬ v3 < 0 → (vp_in v3 W ∧ (((S 7 (v3).toNatClampNeg) < v1 → (∀ y1 : Int32, y1 = v3 + (-1) → V 9 S [v1, v2, y1])) ∧ (¬ (S 7 (v3).toNatClampNeg) < v1 → ((v2 = (-1) → (∀ y2 : Int32, y2 = v3 + (-1) → V 9 S [v1, v3, y2])) ∧ (¬ v2 = (-1) → (vp_in v3 W ∧ (vp_in v2 W ∧ (((S 7 (v2).toNatClampNeg) ≤ (S 7 (v3).toNatClampNeg) → (∀ y3 : Int32, y3 = v3 + (-1) → V 9 S [v1, v2, y3])) ∧ (¬ (S 7 (v2).toNatClampNeg) ≤ (S 7 (v3).toNatClampNeg) → (∀ y4 : Int32, y4 = v3 + (-1) → V 9 S [v1, v3, y4]))))))))))))
  | _, _ => False
def wp_F_bestFor (W E : Nat) (xs : List Int32) (S : GS) (post : Int32 → GS → Prop) : Prop := ∀ V : Nat → GS → List Int32 → Prop, (∀ h S xs, sp_F_bestFor W E post V h S xs → V h S xs) → V 0 S xs
def vh_F_bestFor (o : Nat → Nat) (G : GS → Nat → List (Nat × Value) → List Value → Prop) (h : Nat) (S : GS) (xs : List Int32) : Prop := match h, xs with
  | 0, [v1] => G S 0 [(0, .ref (o 5)), (1, .int v1)] []
  | 9, [v1, v2, v3] => G S 9 [(0, .ref (o 5)), (1, .int v1), (2, .int v2), (3, .int v3)] []
  | _, _ => True
set_option maxHeartbeats 4000000 in
set_option maxRecDepth 100000 in
theorem wk_F_bestFor_0 {l : Launch} {dC : Nat → ClassId} {dI : Nat → Nat → Nat} {cI cZ : ClassId} {o : Nat → Nat} {W E : Nat} {p : Program} {e : Env} {s : State} {m : MethodId} {args : Array Value} {below : List Frame} {meth : Method} {c : Code} {A : Nat → Prop} {post : Int32 → GS → Prop} (C : GC p s m args c cF_bestFor 4 RF wsA (dC, dI) gx_cl [(cI, .int), (cZ, .boolean)] A) (hr : meth.sig.returnType = (some .int)) (hlocks : meth.locks = false) (S : GS) (v1 : Int32) (hs : sp_F_bestFor W E post (vh_F_bestFor o (GV p l e { frames := 0, cells := 0, slots := 0, locals := 0 } s m args below meth c (MQ below (va_Qi post (GB (xw cI cZ o W E) (dC, dI) gx_cl [(cI, .int), (cZ, .boolean)] A) A) args s 0 0 A) 4 (dC, dI) gx_cl A (xw cI cZ o W E))) 0 S [v1]) : GV p l e { frames := 0, cells := 0, slots := 0, locals := 0 } s m args below meth c (MQ below (va_Qi post (GB (xw cI cZ o W E) (dC, dI) gx_cl [(cI, .int), (cZ, .boolean)] A) A) args s 0 0 A) 4 (dC, dI) gx_cl A (xw cI cZ o W E) S 0 [(0, .ref (o 5)), (1, .int v1)] [] := by
  refine gx_iconst (v := (-1)) C dF_bestFor_0 (by decide) ?_
  refine gx_top (fun y1 ey1 => ?_)
  replace hs := hs y1 ey1
  refine gx_istore_n (L' := [(2, .int y1), (0, .ref (o 5)), (1, .int v1)]) C dF_bestFor_1 rfl (by decide) rfl ?_
  refine gx_aload_n C dF_bestFor_2 1 rfl rfl ?_
  refine gx_get C xo_fc hi_F 2 (by decide) fl_F_18 rfl dF_bestFor_3 ?_
  refine gx_iconst (v := 1) C dF_bestFor_6 (by decide) ?_
  refine gx_isub C dF_bestFor_7 ?_
  refine gx_top (fun y2 ey2 => ?_)
  replace hs := hs y2 ey2
  refine gx_istore_n (L' := [(3, .int y2), (2, .int y1), (0, .ref (o 5)), (1, .int v1)]) C dF_bestFor_8 rfl (by decide) rfl ?_
  exact gx_sub [2, 3, 1, 0] rfl hs
set_option maxHeartbeats 4000000 in
set_option maxRecDepth 100000 in
theorem wk_F_bestFor_9 {l : Launch} {dC : Nat → ClassId} {dI : Nat → Nat → Nat} {cI cZ : ClassId} {o : Nat → Nat} {W E : Nat} {p : Program} {e : Env} {s : State} {m : MethodId} {args : Array Value} {below : List Frame} {meth : Method} {c : Code} {A : Nat → Prop} {post : Int32 → GS → Prop} (C : GC p s m args c cF_bestFor 4 RF wsA (dC, dI) gx_cl [(cI, .int), (cZ, .boolean)] A) (hr : meth.sig.returnType = (some .int)) (hlocks : meth.locks = false) (S : GS) (v1 : Int32) (v2 : Int32) (v3 : Int32) (hs : sp_F_bestFor W E post (vh_F_bestFor o (GV p l e { frames := 0, cells := 0, slots := 0, locals := 0 } s m args below meth c (MQ below (va_Qi post (GB (xw cI cZ o W E) (dC, dI) gx_cl [(cI, .int), (cZ, .boolean)] A) A) args s 0 0 A) 4 (dC, dI) gx_cl A (xw cI cZ o W E))) 9 S [v1, v2, v3]) : GV p l e { frames := 0, cells := 0, slots := 0, locals := 0 } s m args below meth c (MQ below (va_Qi post (GB (xw cI cZ o W E) (dC, dI) gx_cl [(cI, .int), (cZ, .boolean)] A) A) args s 0 0 A) 4 (dC, dI) gx_cl A (xw cI cZ o W E) S 9 [(0, .ref (o 5)), (1, .int v1), (2, .int v2), (3, .int v3)] [] := by
  refine gx_iload_n C dF_bestFor_9 3 rfl rfl ?_
  obtain ⟨ht, hf⟩ := hs
  refine gx_if_lt C dF_bestFor_10 51 rfl (fun hc => ?_) (fun hc => ?_)
  · have hs := ht hc
    refine gx_iload_n C dF_bestFor_51 2 rfl rfl ?_
    exact gx_iret C hr hlocks dF_bestFor_52 hs
  · have hs := hf hc
    refine gx_aload_n C dF_bestFor_13 0 rfl rfl ?_
    refine gx_get C xo_fc hi_F 1 (by decide) fl_F_15 rfl dF_bestFor_14 ?_
    refine gx_iload_n C dF_bestFor_17 3 rfl rfl ?_
    obtain ⟨hin, hs⟩ := hs
    refine gx_iald C xa_sizes hin dF_bestFor_18 ?_
    refine gx_iload_n C dF_bestFor_19 1 rfl rfl ?_
    obtain ⟨ht, hf⟩ := hs
    refine gx_icmp_lt C dF_bestFor_20 45 rfl (fun hc => ?_) (fun hc => ?_)
    · have hs := ht hc
      refine gx_iinc (v0 := (-1)) (f := fun v => [(3, .int v), (0, .ref (o 5)), (1, .int v1), (2, .int v2)]) C dF_bestFor_45 3 rfl (by decide) (by decide) (fun _ => rfl) (fun y1 ey1 => ?_)
      replace hs := hs y1 ey1
      refine gx_goto C dF_bestFor_48 9 rfl ?_
      exact gx_sub [1, 2, 3, 0] rfl hs
    · have hs := hf hc
      refine gx_iload_n C dF_bestFor_23 2 rfl rfl ?_
      refine gx_iconst (v := (-1)) C dF_bestFor_24 (by decide) ?_
      obtain ⟨ht, hf⟩ := hs
      refine gx_icmp_eq C dF_bestFor_25 43 rfl (fun hc => ?_) (fun hc => ?_)
      · have hs := ht hc
        refine gx_iload_n C dF_bestFor_43 3 rfl rfl ?_
        refine gx_istore_n (L' := [(2, .int v3), (0, .ref (o 5)), (1, .int v1), (3, .int v3)]) C dF_bestFor_44 rfl (by decide) rfl ?_
        refine gx_iinc (v0 := (-1)) (f := fun v => [(3, .int v), (2, .int v3), (0, .ref (o 5)), (1, .int v1)]) C dF_bestFor_45 3 rfl (by decide) (by decide) (fun _ => rfl) (fun y2 ey2 => ?_)
        replace hs := hs y2 ey2
        refine gx_goto C dF_bestFor_48 9 rfl ?_
        exact gx_sub [2, 3, 1, 0] rfl hs
      · have hs := hf hc
        refine gx_aload_n C dF_bestFor_28 0 rfl rfl ?_
        refine gx_get C xo_fc hi_F 1 (by decide) fl_F_15 rfl dF_bestFor_29 ?_
        refine gx_iload_n C dF_bestFor_32 3 rfl rfl ?_
        obtain ⟨hin, hs⟩ := hs
        refine gx_iald C xa_sizes hin dF_bestFor_33 ?_
        refine gx_aload_n C dF_bestFor_34 0 rfl rfl ?_
        refine gx_get C xo_fc hi_F 1 (by decide) fl_F_15 rfl dF_bestFor_35 ?_
        refine gx_iload_n C dF_bestFor_38 2 rfl rfl ?_
        obtain ⟨hin, hs⟩ := hs
        refine gx_iald C xa_sizes hin dF_bestFor_39 ?_
        obtain ⟨ht, hf⟩ := hs
        refine gx_icmp_ge C dF_bestFor_40 45 rfl (fun hc => ?_) (fun hc => ?_)
        · have hs := ht hc
          refine gx_iinc (v0 := (-1)) (f := fun v => [(3, .int v), (0, .ref (o 5)), (1, .int v1), (2, .int v2)]) C dF_bestFor_45 3 rfl (by decide) (by decide) (fun _ => rfl) (fun y3 ey3 => ?_)
          replace hs := hs y3 ey3
          refine gx_goto C dF_bestFor_48 9 rfl ?_
          exact gx_sub [1, 2, 3, 0] rfl hs
        · have hs := hf hc
          refine gx_iload_n C dF_bestFor_43 3 rfl rfl ?_
          refine gx_istore_n (L' := [(2, .int v3), (0, .ref (o 5)), (1, .int v1), (3, .int v3)]) C dF_bestFor_44 rfl (by decide) rfl ?_
          refine gx_iinc (v0 := (-1)) (f := fun v => [(3, .int v), (2, .int v3), (0, .ref (o 5)), (1, .int v1)]) C dF_bestFor_45 3 rfl (by decide) (by decide) (fun _ => rfl) (fun y4 ey4 => ?_)
          replace hs := hs y4 ey4
          refine gx_goto C dF_bestFor_48 9 rfl ?_
          exact gx_sub [2, 3, 1, 0] rfl hs
set_option maxHeartbeats 4000000 in
set_option maxRecDepth 100000 in
theorem mt_F_bestFor (l : Launch) (dC : Nat → ClassId) (dI : Nat → Nat → Nat) (cI cZ : ClassId) (o : Nat → Nat) (W E : Nat) (v1 : Int32) (S : GS) (post : Int32 → GS → Prop) (h : wp_F_bestFor W E [v1] S post) : MetI l yF_bestFor (Cond.code yF_bestFor cF_bestFor 4 (some .int) :: wsA) ({ frames := 0, cells := 0, slots := 0, locals := 0 }) (dC, dI) gx_cl [(cI, .int), (cZ, .boolean)] (xw cI cZ o W E) [.ref (o 5), .int v1] S post := by
  refine gx_metI (by decide) wsA_good (Nat.le_of_ble_eq_true rfl) ?_
  intro p e s m args below meth c A C hr hlocks
  refine h (vh_F_bestFor o (GV p l e { frames := 0, cells := 0, slots := 0, locals := 0 } s m args below meth c (MQ below (va_Qi post (GB (xw cI cZ o W E) (dC, dI) gx_cl [(cI, .int), (cZ, .boolean)] A) A) args s 0 0 A) 4 (dC, dI) gx_cl A (xw cI cZ o W E))) (fun h S xs hs => ?_)
  unfold sp_F_bestFor at hs
  split at hs
  · exact wk_F_bestFor_0 C hr hlocks _ _ hs
  · exact wk_F_bestFor_9 C hr hlocks _ _ _ _ hs
  · exact hs.elim
/-- CountedObjects$FreeChunks.remove(I)V: a step from head to head -/
def sp_F_remove (W E : Nat) (post : GS → Prop) (V : Nat → GS → List Int32 → Prop) (h : Nat) (S : GS) (xs : List Int32) : Prop := match h, xs with
  | 0, [v1] => (∀ S1 : GS, S1 = gx_set 100 0 ((S 100 0) - 1) S → (¬ (v1 + 1) < 0 ∧ ¬ v1 < 0 ∧ ¬ ((S1 100 0) - v1) < 0 ∧ (v1 + 1).toNatClampNeg + ((S1 100 0) - v1).toNatClampNeg ≤ W ∧ (v1).toNatClampNeg + ((S1 100 0) - v1).toNatClampNeg ≤ W ∧ ∀ S2 : GS, S2 = gx_row 6 (va_cpy (S1 6) (S1 6) (v1 + 1).toNatClampNeg (v1).toNatClampNeg ((S1 100 0) - v1).toNatClampNeg) S1 → (¬ (v1 + 1) < 0 ∧ ¬ v1 < 0 ∧ ¬ ((S2 100 0) - v1) < 0 ∧ (v1 + 1).toNatClampNeg + ((S2 100 0) - v1).toNatClampNeg ≤ W ∧ (v1).toNatClampNeg + ((S2 100 0) - v1).toNatClampNeg ≤ W ∧ ∀ S3 : GS, S3 = gx_row 7 (va_cpy (S2 7) (S2 7) (v1 + 1).toNatClampNeg (v1).toNatClampNeg ((S2 100 0) - v1).toNatClampNeg) S2 → post S3)))
  | _, _ => False
def wp_F_remove (W E : Nat) (xs : List Int32) (S : GS) (post : GS → Prop) : Prop := ∀ V : Nat → GS → List Int32 → Prop, (∀ h S xs, sp_F_remove W E post V h S xs → V h S xs) → V 0 S xs
def vh_F_remove (o : Nat → Nat) (G : GS → Nat → List (Nat × Value) → List Value → Prop) (h : Nat) (S : GS) (xs : List Int32) : Prop := match h, xs with
  | 0, [v1] => G S 0 [(0, .ref (o 5)), (1, .int v1)] []
  | _, _ => True
set_option maxHeartbeats 4000000 in
set_option maxRecDepth 100000 in
theorem wk_F_remove_0 {l : Launch} {dC : Nat → ClassId} {dI : Nat → Nat → Nat} {cI cZ : ClassId} {o : Nat → Nat} {W E : Nat} {p : Program} {e : Env} {s : State} {m : MethodId} {args : Array Value} {below : List Frame} {meth : Method} {c : Code} {A : Nat → Prop} {post : GS → Prop} (C : GC p s m args c cF_remove 2 RF wsA (dC, dI) gx_cl [(cI, .int), (cZ, .boolean)] A) (hr : meth.sig.returnType = none) (hlocks : meth.locks = false) (S : GS) (v1 : Int32) (hs : sp_F_remove W E post (vh_F_remove o (GV p l e { frames := 1, cells := 0, slots := 0, locals := 68 } s m args below meth c (MQ below (va_Qv post (GB (xw cI cZ o W E) (dC, dI) gx_cl [(cI, .int), (cZ, .boolean)] A) A) args s 0 0 A) 2 (dC, dI) gx_cl A (xw cI cZ o W E))) 0 S [v1]) : GV p l e { frames := 1, cells := 0, slots := 0, locals := 68 } s m args below meth c (MQ below (va_Qv post (GB (xw cI cZ o W E) (dC, dI) gx_cl [(cI, .int), (cZ, .boolean)] A) A) args s 0 0 A) 2 (dC, dI) gx_cl A (xw cI cZ o W E) S 0 [(0, .ref (o 5)), (1, .int v1)] [] := by
  refine gx_aload_n C dF_remove_0 0 rfl rfl ?_
  refine gx_dup C dF_remove_1 rfl ?_
  refine gx_get C xo_fc hi_F 2 (by decide) fl_F_18 rfl dF_remove_2 ?_
  refine gx_iconst (v := 1) C dF_remove_5 (by decide) ?_
  refine gx_isub C dF_remove_6 ?_
  refine gx_put C xo_fc hi_F tyF tyF_ok nmF 2 (by decide) fl_F_18 rfl (by decide +kernel) (Nat.le_of_ble_eq_true rfl) (xp_held _ _) dF_remove_7 (fun S1 eS1 => ?_)
  replace hs := hs S1 eS1
  refine gx_aload_n C dF_remove_10 0 rfl rfl ?_
  refine gx_get C xo_fc hi_F 0 (by decide) fl_F_9 rfl dF_remove_11 ?_
  refine gx_iload_n C dF_remove_14 1 rfl rfl ?_
  refine gx_iconst (v := 1) C dF_remove_15 (by decide) ?_
  refine gx_iadd C dF_remove_16 ?_
  refine gx_aload_n C dF_remove_17 0 rfl rfl ?_
  refine gx_get C xo_fc hi_F 0 (by decide) fl_F_9 rfl dF_remove_18 ?_
  refine gx_iload_n C dF_remove_21 1 rfl rfl ?_
  refine gx_aload_n C dF_remove_22 0 rfl rfl ?_
  refine gx_get C xo_fc hi_F 2 (by decide) fl_F_18 rfl dF_remove_23 ?_
  refine gx_iload_n C dF_remove_26 1 rfl rfl ?_
  refine gx_isub C dF_remove_27 ?_
  obtain ⟨h1, h2, h3, h4, h5, hs⟩ := hs
  refine gx_copy C xa_starts ln_F_34 na_copy sm_copy in_java_lang_System h1 h2 h3 h4 h5 (Nat.le_of_ble_eq_true rfl) (Nat.le_of_ble_eq_true rfl) dF_remove_28 (fun S2 eS2 => ?_)
  replace hs := hs S2 eS2
  refine gx_aload_n C dF_remove_31 0 rfl rfl ?_
  refine gx_get C xo_fc hi_F 1 (by decide) fl_F_15 rfl dF_remove_32 ?_
  refine gx_iload_n C dF_remove_35 1 rfl rfl ?_
  refine gx_iconst (v := 1) C dF_remove_36 (by decide) ?_
  refine gx_iadd C dF_remove_37 ?_
  refine gx_aload_n C dF_remove_38 0 rfl rfl ?_
  refine gx_get C xo_fc hi_F 1 (by decide) fl_F_15 rfl dF_remove_39 ?_
  refine gx_iload_n C dF_remove_42 1 rfl rfl ?_
  refine gx_aload_n C dF_remove_43 0 rfl rfl ?_
  refine gx_get C xo_fc hi_F 2 (by decide) fl_F_18 rfl dF_remove_44 ?_
  refine gx_iload_n C dF_remove_47 1 rfl rfl ?_
  refine gx_isub C dF_remove_48 ?_
  obtain ⟨h1, h2, h3, h4, h5, hs⟩ := hs
  refine gx_copy C xa_sizes ln_F_34 na_copy sm_copy in_java_lang_System h1 h2 h3 h4 h5 (Nat.le_of_ble_eq_true rfl) (Nat.le_of_ble_eq_true rfl) dF_remove_49 (fun S3 eS3 => ?_)
  replace hs := hs S3 eS3
  exact gx_vret C hr hlocks dF_remove_52 hs
set_option maxHeartbeats 4000000 in
set_option maxRecDepth 100000 in
theorem mt_F_remove (l : Launch) (dC : Nat → ClassId) (dI : Nat → Nat → Nat) (cI cZ : ClassId) (o : Nat → Nat) (W E : Nat) (v1 : Int32) (S : GS) (post : GS → Prop) (h : wp_F_remove W E [v1] S post) : MetV l yF_remove (Cond.code yF_remove cF_remove 2 none :: wsA) ({ frames := 1, cells := 0, slots := 0, locals := 68 }) (dC, dI) gx_cl [(cI, .int), (cZ, .boolean)] (xw cI cZ o W E) [.ref (o 5), .int v1] S post := by
  refine gx_metV (by decide) wsA_good (Nat.le_of_ble_eq_true rfl) ?_
  intro p e s m args below meth c A C hr hlocks
  refine h (vh_F_remove o (GV p l e { frames := 1, cells := 0, slots := 0, locals := 68 } s m args below meth c (MQ below (va_Qv post (GB (xw cI cZ o W E) (dC, dI) gx_cl [(cI, .int), (cZ, .boolean)] A) A) args s 0 0 A) 2 (dC, dI) gx_cl A (xw cI cZ o W E))) (fun h S xs hs => ?_)
  unfold sp_F_remove at hs
  split at hs
  · exact wk_F_remove_0 C hr hlocks _ _ hs
  · exact hs.elim
/-- CountedObjects$FreeChunks.take(I)I: a step from head to head -/
def sp_F_take (W E : Nat) (post : Int32 → GS → Prop) (V : Nat → GS → List Int32 → Prop) (h : Nat) (S : GS) (xs : List Int32) : Prop := match h, xs with
  | 0, [v1] => wp_F_bestFor W E [v1] S (fun r2 S1 => ((¬ r2 = (-1) → (vp_in r2 W ∧ ∀ y3 : Int32, y3 = S1 6 (r2).toNatClampNeg → (vp_in r2 W ∧ ∀ y4 : Int32, y4 = (S1 7 (r2).toNatClampNeg) - v1 → wp_F_remove W E [r2] S1 (fun S5 => ((y4 ≤ 0 → post y3 S5) ∧ (¬ y4 ≤ 0 → wp_F_add W E [y3 + v1, y4] S5 (fun S7 => post y3 S7))))))) ∧ (r2 = (-1) → post (-1) S1)))
  | _, _ => False
def wp_F_take (W E : Nat) (xs : List Int32) (S : GS) (post : Int32 → GS → Prop) : Prop := ∀ V : Nat → GS → List Int32 → Prop, (∀ h S xs, sp_F_take W E post V h S xs → V h S xs) → V 0 S xs
def vh_F_take (o : Nat → Nat) (G : GS → Nat → List (Nat × Value) → List Value → Prop) (h : Nat) (S : GS) (xs : List Int32) : Prop := match h, xs with
  | 0, [v1] => G S 0 [(0, .ref (o 5)), (1, .int v1)] []
  | _, _ => True
set_option maxHeartbeats 4000000 in
set_option maxRecDepth 100000 in
theorem wk_F_take_0 {l : Launch} {dC : Nat → ClassId} {dI : Nat → Nat → Nat} {cI cZ : ClassId} {o : Nat → Nat} {W E : Nat} {p : Program} {e : Env} {s : State} {m : MethodId} {args : Array Value} {below : List Frame} {meth : Method} {c : Code} {A : Nat → Prop} {post : Int32 → GS → Prop} (C : GC p s m args c cF_take 5 RF wsA (dC, dI) gx_cl [(cI, .int), (cZ, .boolean)] A) (hr : meth.sig.returnType = (some .int)) (hlocks : meth.locks = false) (S : GS) (v1 : Int32) (hs : sp_F_take W E post (vh_F_take o (GV p l e { frames := 2, cells := 0, slots := 0, locals := 89 } s m args below meth c (MQ below (va_Qi post (GB (xw cI cZ o W E) (dC, dI) gx_cl [(cI, .int), (cZ, .boolean)] A) A) args s 0 0 A) 5 (dC, dI) gx_cl A (xw cI cZ o W E))) 0 S [v1]) : GV p l e { frames := 2, cells := 0, slots := 0, locals := 89 } s m args below meth c (MQ below (va_Qi post (GB (xw cI cZ o W E) (dC, dI) gx_cl [(cI, .int), (cZ, .boolean)] A) A) args s 0 0 A) 5 (dC, dI) gx_cl A (xw cI cZ o W E) S 0 [(0, .ref (o 5)), (1, .int v1)] [] := by
  refine gx_aload_n C dF_take_0 0 rfl rfl ?_
  refine gx_iload_n C dF_take_1 1 rfl rfl ?_
  refine gx_calli (As := [.int v1]) (rest := []) C (mt_F_bestFor l dC dI cI cZ o W E _ _ _ hs) (gx_cwV C 1 ln_F_22 im_F_bestFor se_F_bestFor in_CountedObjects_FreeChunks cd_F_bestFor rfl rfl (by decide +kernel) ⟨Nat.le_of_ble_eq_true rfl, Nat.le_of_ble_eq_true rfl⟩) xo_fc rfl (Nat.le_of_ble_eq_true rfl) dF_take_2 (fun S1 => xw_ad _ S1) rfl (fun r2 S1 hs => ?_)
  refine gx_istore_n (L' := [(2, .int r2), (0, .ref (o 5)), (1, .int v1)]) C dF_take_5 rfl (by decide) rfl ?_
  refine gx_iload_n C dF_take_6 0 rfl rfl ?_
  refine gx_iconst (v := (-1)) C dF_take_7 (by decide) ?_
  obtain ⟨ht, hf⟩ := hs
  refine gx_icmp_ne C dF_take_8 13 rfl (fun hc => ?_) (fun hc => ?_)
  · have hs := ht hc
    refine gx_aload_n C dF_take_13 1 rfl rfl ?_
    refine gx_get C xo_fc hi_F 0 (by decide) fl_F_9 rfl dF_take_14 ?_
    refine gx_iload_n C dF_take_17 0 rfl rfl ?_
    obtain ⟨hin, hs⟩ := hs
    refine gx_iald C xa_starts hin dF_take_18 ?_
    refine gx_top (fun y3 ey3 => ?_)
    replace hs := hs y3 ey3
    refine gx_istore_n (L' := [(3, .int y3), (2, .int r2), (0, .ref (o 5)), (1, .int v1)]) C dF_take_19 rfl (by decide) rfl ?_
    refine gx_aload_n C dF_take_20 2 rfl rfl ?_
    refine gx_get C xo_fc hi_F 1 (by decide) fl_F_15 rfl dF_take_21 ?_
    refine gx_iload_n C dF_take_24 1 rfl rfl ?_
    obtain ⟨hin, hs⟩ := hs
    refine gx_iald C xa_sizes hin dF_take_25 ?_
    refine gx_iload_n C dF_take_26 3 rfl rfl ?_
    refine gx_isub C dF_take_27 ?_
    refine gx_top (fun y4 ey4 => ?_)
    replace hs := hs y4 ey4
    refine gx_istore (L' := [(4, .int y4), (3, .int y3), (2, .int r2), (0, .ref (o 5)), (1, .int v1)]) C dF_take_28 (by decide) rfl ?_
    refine gx_aload_n C dF_take_30 3 rfl rfl ?_
    refine gx_iload_n C dF_take_31 2 rfl rfl ?_
    refine gx_callv (As := [.int r2]) (rest := []) C (mt_F_remove l dC dI cI cZ o W E _ _ _ hs) (gx_cwV C 1 ln_F_26 im_F_remove se_F_remove in_CountedObjects_FreeChunks cd_F_remove rfl rfl (by decide +kernel) ⟨Nat.le_of_ble_eq_true rfl, Nat.le_of_ble_eq_true rfl⟩) xo_fc rfl (Nat.le_of_ble_eq_true rfl) dF_take_32 (fun S1 => xw_ad _ S1) rfl (fun S5 hs => ?_)
    refine gx_iload C dF_take_35 0 rfl ?_
    obtain ⟨ht, hf⟩ := hs
    refine gx_if_le C dF_take_37 49 rfl (fun hc => ?_) (fun hc => ?_)
    · have hs := ht hc
      refine gx_iload_n C dF_take_49 1 rfl rfl ?_
      exact gx_iret C hr hlocks dF_take_50 hs
    · have hs := hf hc
      refine gx_aload_n C dF_take_40 3 rfl rfl ?_
      refine gx_iload_n C dF_take_41 1 rfl rfl ?_
      refine gx_iload_n C dF_take_42 4 rfl rfl ?_
      refine gx_iadd C dF_take_43 ?_
      refine gx_iload C dF_take_44 0 rfl ?_
      refine gx_callv (As := [.int (y3 + v1), .int y4]) (rest := []) C (mt_F_add l dC dI cI cZ o W E _ _ _ _ hs) (gx_cwV C 2 ln_F_30 im_F_add se_F_add in_CountedObjects_FreeChunks cd_F_add rfl rfl (by decide +kernel) ⟨Nat.le_of_ble_eq_true rfl, Nat.le_of_ble_eq_true rfl⟩) xo_fc rfl (Nat.le_of_ble_eq_true rfl) dF_take_46 (fun S1 => xw_ad _ S1) rfl (fun S7 hs => ?_)
      refine gx_iload_n C dF_take_49 1 rfl rfl ?_
      exact gx_iret C hr hlocks dF_take_50 hs
  · have hs := hf hc
    refine gx_iconst (v := (-1)) C dF_take_11 (by decide) ?_
    exact gx_iret C hr hlocks dF_take_12 hs
set_option maxHeartbeats 4000000 in
set_option maxRecDepth 100000 in
theorem mt_F_take (l : Launch) (dC : Nat → ClassId) (dI : Nat → Nat → Nat) (cI cZ : ClassId) (o : Nat → Nat) (W E : Nat) (v1 : Int32) (S : GS) (post : Int32 → GS → Prop) (h : wp_F_take W E [v1] S post) : MetI l yF_take (Cond.code yF_take cF_take 5 (some .int) :: wsA) ({ frames := 2, cells := 0, slots := 0, locals := 89 }) (dC, dI) gx_cl [(cI, .int), (cZ, .boolean)] (xw cI cZ o W E) [.ref (o 5), .int v1] S post := by
  refine gx_metI (by decide) wsA_good (Nat.le_of_ble_eq_true rfl) ?_
  intro p e s m args below meth c A C hr hlocks
  refine h (vh_F_take o (GV p l e { frames := 2, cells := 0, slots := 0, locals := 89 } s m args below meth c (MQ below (va_Qi post (GB (xw cI cZ o W E) (dC, dI) gx_cl [(cI, .int), (cZ, .boolean)] A) A) args s 0 0 A) 5 (dC, dI) gx_cl A (xw cI cZ o W E))) (fun h S xs hs => ?_)
  unfold sp_F_take at hs
  split at hs
  · exact wk_F_take_0 C hr hlocks _ _ hs
  · exact hs.elim
/-- CountedObjects$FreeChunks.ofSize(I)I: a step from head to head -/
def sp_F_ofSize (W E : Nat) (post : Int32 → GS → Prop) (V : Nat → GS → List Int32 → Prop) (h : Nat) (S : GS) (xs : List Int32) : Prop := match h, xs with
  | 0, [v1] => ∀ y1 : Int32, y1 = 0 → ∀ y2 : Int32, y2 = 0 → V 4 S [v1, y1, y2]
  | 4, [v1, v2, v3] => (((S 100 0) ≤ v3 → post v2 S) ∧ (¬ (S 100 0) ≤ v3 → (vp_in v3 W ∧ ((¬ (S 7 (v3).toNatClampNeg) = v1 → (∀ y1 : Int32, y1 = v3 + 1 → V 4 S [v1, v2, y1])) ∧ ((S 7 (v3).toNatClampNeg) = v1 → (∀ y2 : Int32, y2 = v2 + 1 → (∀ y3 : Int32, y3 = v3 + 1 → V 4 S [v1, y2, y3])))))))
  | _, _ => False
def wp_F_ofSize (W E : Nat) (xs : List Int32) (S : GS) (post : Int32 → GS → Prop) : Prop := ∀ V : Nat → GS → List Int32 → Prop, (∀ h S xs, sp_F_ofSize W E post V h S xs → V h S xs) → V 0 S xs
def vh_F_ofSize (o : Nat → Nat) (G : GS → Nat → List (Nat × Value) → List Value → Prop) (h : Nat) (S : GS) (xs : List Int32) : Prop := match h, xs with
  | 0, [v1] => G S 0 [(0, .ref (o 5)), (1, .int v1)] []
  | 4, [v1, v2, v3] => G S 4 [(0, .ref (o 5)), (1, .int v1), (2, .int v2), (3, .int v3)] []
  | _, _ => True
set_option maxHeartbeats 4000000 in
set_option maxRecDepth 100000 in
theorem wk_F_ofSize_0 {l : Launch} {dC : Nat → ClassId} {dI : Nat → Nat → Nat} {cI cZ : ClassId} {o : Nat → Nat} {W E : Nat} {p : Program} {e : Env} {s : State} {m : MethodId} {args : Array Value} {below : List Frame} {meth : Method} {c : Code} {A : Nat → Prop} {post : Int32 → GS → Prop} (C : GC p s m args c cF_ofSize 4 RF wsA (dC, dI) gx_cl [(cI, .int), (cZ, .boolean)] A) (hr : meth.sig.returnType = (some .int)) (hlocks : meth.locks = false) (S : GS) (v1 : Int32) (hs : sp_F_ofSize W E post (vh_F_ofSize o (GV p l e { frames := 0, cells := 0, slots := 0, locals := 0 } s m args below meth c (MQ below (va_Qi post (GB (xw cI cZ o W E) (dC, dI) gx_cl [(cI, .int), (cZ, .boolean)] A) A) args s 0 0 A) 4 (dC, dI) gx_cl A (xw cI cZ o W E))) 0 S [v1]) : GV p l e { frames := 0, cells := 0, slots := 0, locals := 0 } s m args below meth c (MQ below (va_Qi post (GB (xw cI cZ o W E) (dC, dI) gx_cl [(cI, .int), (cZ, .boolean)] A) A) args s 0 0 A) 4 (dC, dI) gx_cl A (xw cI cZ o W E) S 0 [(0, .ref (o 5)), (1, .int v1)] [] := by
  refine gx_iconst (v := 0) C dF_ofSize_0 (by decide) ?_
  refine gx_top (fun y1 ey1 => ?_)
  replace hs := hs y1 ey1
  refine gx_istore_n (L' := [(2, .int y1), (0, .ref (o 5)), (1, .int v1)]) C dF_ofSize_1 rfl (by decide) rfl ?_
  refine gx_iconst (v := 0) C dF_ofSize_2 (by decide) ?_
  refine gx_top (fun y2 ey2 => ?_)
  replace hs := hs y2 ey2
  refine gx_istore_n (L' := [(3, .int y2), (2, .int y1), (0, .ref (o 5)), (1, .int v1)]) C dF_ofSize_3 rfl (by decide) rfl ?_
  exact gx_sub [2, 3, 1, 0] rfl hs
set_option maxHeartbeats 4000000 in
set_option maxRecDepth 100000 in
theorem wk_F_ofSize_4 {l : Launch} {dC : Nat → ClassId} {dI : Nat → Nat → Nat} {cI cZ : ClassId} {o : Nat → Nat} {W E : Nat} {p : Program} {e : Env} {s : State} {m : MethodId} {args : Array Value} {below : List Frame} {meth : Method} {c : Code} {A : Nat → Prop} {post : Int32 → GS → Prop} (C : GC p s m args c cF_ofSize 4 RF wsA (dC, dI) gx_cl [(cI, .int), (cZ, .boolean)] A) (hr : meth.sig.returnType = (some .int)) (hlocks : meth.locks = false) (S : GS) (v1 : Int32) (v2 : Int32) (v3 : Int32) (hs : sp_F_ofSize W E post (vh_F_ofSize o (GV p l e { frames := 0, cells := 0, slots := 0, locals := 0 } s m args below meth c (MQ below (va_Qi post (GB (xw cI cZ o W E) (dC, dI) gx_cl [(cI, .int), (cZ, .boolean)] A) A) args s 0 0 A) 4 (dC, dI) gx_cl A (xw cI cZ o W E))) 4 S [v1, v2, v3]) : GV p l e { frames := 0, cells := 0, slots := 0, locals := 0 } s m args below meth c (MQ below (va_Qi post (GB (xw cI cZ o W E) (dC, dI) gx_cl [(cI, .int), (cZ, .boolean)] A) A) args s 0 0 A) 4 (dC, dI) gx_cl A (xw cI cZ o W E) S 4 [(0, .ref (o 5)), (1, .int v1), (2, .int v2), (3, .int v3)] [] := by
  refine gx_iload_n C dF_ofSize_4 3 rfl rfl ?_
  refine gx_aload_n C dF_ofSize_5 0 rfl rfl ?_
  refine gx_get C xo_fc hi_F 2 (by decide) fl_F_18 rfl dF_ofSize_6 ?_
  obtain ⟨ht, hf⟩ := hs
  refine gx_icmp_ge C dF_ofSize_9 31 rfl (fun hc => ?_) (fun hc => ?_)
  · have hs := ht hc
    refine gx_iload_n C dF_ofSize_31 2 rfl rfl ?_
    exact gx_iret C hr hlocks dF_ofSize_32 hs
  · have hs := hf hc
    refine gx_aload_n C dF_ofSize_12 0 rfl rfl ?_
    refine gx_get C xo_fc hi_F 1 (by decide) fl_F_15 rfl dF_ofSize_13 ?_
    refine gx_iload_n C dF_ofSize_16 3 rfl rfl ?_
    obtain ⟨hin, hs⟩ := hs
    refine gx_iald C xa_sizes hin dF_ofSize_17 ?_
    refine gx_iload_n C dF_ofSize_18 1 rfl rfl ?_
    obtain ⟨ht, hf⟩ := hs
    refine gx_icmp_ne C dF_ofSize_19 25 rfl (fun hc => ?_) (fun hc => ?_)
    · have hs := ht hc
      refine gx_iinc (v0 := 1) (f := fun v => [(3, .int v), (0, .ref (o 5)), (1, .int v1), (2, .int v2)]) C dF_ofSize_25 3 rfl (by decide) (by decide) (fun _ => rfl) (fun y1 ey1 => ?_)
      replace hs := hs y1 ey1
      refine gx_goto C dF_ofSize_28 4 rfl ?_
      exact gx_sub [1, 2, 3, 0] rfl hs
    · have hs := hf hc
      refine gx_iinc (v0 := 1) (f := fun v => [(2, .int v), (0, .ref (o 5)), (1, .int v1), (3, .int v3)]) C dF_ofSize_22 2 rfl (by decide) (by decide) (fun _ => rfl) (fun y2 ey2 => ?_)
      replace hs := hs y2 ey2
      refine gx_iinc (v0 := 1) (f := fun v => [(3, .int v), (2, .int y2), (0, .ref (o 5)), (1, .int v1)]) C dF_ofSize_25 3 rfl (by decide) (by decide) (fun _ => rfl) (fun y3 ey3 => ?_)
      replace hs := hs y3 ey3
      refine gx_goto C dF_ofSize_28 4 rfl ?_
      exact gx_sub [2, 3, 1, 0] rfl hs
set_option maxHeartbeats 4000000 in
set_option maxRecDepth 100000 in
theorem mt_F_ofSize (l : Launch) (dC : Nat → ClassId) (dI : Nat → Nat → Nat) (cI cZ : ClassId) (o : Nat → Nat) (W E : Nat) (v1 : Int32) (S : GS) (post : Int32 → GS → Prop) (h : wp_F_ofSize W E [v1] S post) : MetI l yF_ofSize (Cond.code yF_ofSize cF_ofSize 4 (some .int) :: wsA) ({ frames := 0, cells := 0, slots := 0, locals := 0 }) (dC, dI) gx_cl [(cI, .int), (cZ, .boolean)] (xw cI cZ o W E) [.ref (o 5), .int v1] S post := by
  refine gx_metI (by decide) wsA_good (Nat.le_of_ble_eq_true rfl) ?_
  intro p e s m args below meth c A C hr hlocks
  refine h (vh_F_ofSize o (GV p l e { frames := 0, cells := 0, slots := 0, locals := 0 } s m args below meth c (MQ below (va_Qi post (GB (xw cI cZ o W E) (dC, dI) gx_cl [(cI, .int), (cZ, .boolean)] A) A) args s 0 0 A) 4 (dC, dI) gx_cl A (xw cI cZ o W E))) (fun h S xs hs => ?_)
  unfold sp_F_ofSize at hs
  split at hs
  · exact wk_F_ofSize_0 C hr hlocks _ _ hs
  · exact wk_F_ofSize_4 C hr hlocks _ _ _ _ hs
  · exact hs.elim
/-- CountedObjects$FreeChunks.allWords()I: a step from head to head -/
def sp_F_allWords (W E : Nat) (post : Int32 → GS → Prop) (V : Nat → GS → List Int32 → Prop) (h : Nat) (S : GS) (xs : List Int32) : Prop := match h, xs with
  | 0, [] => ∀ y1 : Int32, y1 = 0 → ∀ y2 : Int32, y2 = 0 → V 4 S [y1, y2]
  | 4, [v1, v2] => (((S 100 0) ≤ v2 → post v1 S) ∧ (¬ (S 100 0) ≤ v2 → (vp_in v2 W ∧ ∀ y1 : Int32, y1 = v1 + (S 7 (v2).toNatClampNeg) → (∀ y2 : Int32, y2 = v2 + 1 → V 4 S [y1, y2]))))
  | _, _ => False
def wp_F_allWords (W E : Nat) (xs : List Int32) (S : GS) (post : Int32 → GS → Prop) : Prop := ∀ V : Nat → GS → List Int32 → Prop, (∀ h S xs, sp_F_allWords W E post V h S xs → V h S xs) → V 0 S xs
def vh_F_allWords (o : Nat → Nat) (G : GS → Nat → List (Nat × Value) → List Value → Prop) (h : Nat) (S : GS) (xs : List Int32) : Prop := match h, xs with
  | 0, [] => G S 0 [(0, .ref (o 5))] []
  | 4, [v1, v2] => G S 4 [(0, .ref (o 5)), (1, .int v1), (2, .int v2)] []
  | _, _ => True
set_option maxHeartbeats 4000000 in
set_option maxRecDepth 100000 in
theorem wk_F_allWords_0 {l : Launch} {dC : Nat → ClassId} {dI : Nat → Nat → Nat} {cI cZ : ClassId} {o : Nat → Nat} {W E : Nat} {p : Program} {e : Env} {s : State} {m : MethodId} {args : Array Value} {below : List Frame} {meth : Method} {c : Code} {A : Nat → Prop} {post : Int32 → GS → Prop} (C : GC p s m args c cF_allWords 3 RF wsA (dC, dI) gx_cl [(cI, .int), (cZ, .boolean)] A) (hr : meth.sig.returnType = (some .int)) (hlocks : meth.locks = false) (S : GS) (hs : sp_F_allWords W E post (vh_F_allWords o (GV p l e { frames := 0, cells := 0, slots := 0, locals := 0 } s m args below meth c (MQ below (va_Qi post (GB (xw cI cZ o W E) (dC, dI) gx_cl [(cI, .int), (cZ, .boolean)] A) A) args s 0 0 A) 3 (dC, dI) gx_cl A (xw cI cZ o W E))) 0 S []) : GV p l e { frames := 0, cells := 0, slots := 0, locals := 0 } s m args below meth c (MQ below (va_Qi post (GB (xw cI cZ o W E) (dC, dI) gx_cl [(cI, .int), (cZ, .boolean)] A) A) args s 0 0 A) 3 (dC, dI) gx_cl A (xw cI cZ o W E) S 0 [(0, .ref (o 5))] [] := by
  refine gx_iconst (v := 0) C dF_allWords_0 (by decide) ?_
  refine gx_top (fun y1 ey1 => ?_)
  replace hs := hs y1 ey1
  refine gx_istore_n (L' := [(1, .int y1), (0, .ref (o 5))]) C dF_allWords_1 rfl (by decide) rfl ?_
  refine gx_iconst (v := 0) C dF_allWords_2 (by decide) ?_
  refine gx_top (fun y2 ey2 => ?_)
  replace hs := hs y2 ey2
  refine gx_istore_n (L' := [(2, .int y2), (1, .int y1), (0, .ref (o 5))]) C dF_allWords_3 rfl (by decide) rfl ?_
  exact gx_sub [2, 1, 0] rfl hs
set_option maxHeartbeats 4000000 in
set_option maxRecDepth 100000 in
theorem wk_F_allWords_4 {l : Launch} {dC : Nat → ClassId} {dI : Nat → Nat → Nat} {cI cZ : ClassId} {o : Nat → Nat} {W E : Nat} {p : Program} {e : Env} {s : State} {m : MethodId} {args : Array Value} {below : List Frame} {meth : Method} {c : Code} {A : Nat → Prop} {post : Int32 → GS → Prop} (C : GC p s m args c cF_allWords 3 RF wsA (dC, dI) gx_cl [(cI, .int), (cZ, .boolean)] A) (hr : meth.sig.returnType = (some .int)) (hlocks : meth.locks = false) (S : GS) (v1 : Int32) (v2 : Int32) (hs : sp_F_allWords W E post (vh_F_allWords o (GV p l e { frames := 0, cells := 0, slots := 0, locals := 0 } s m args below meth c (MQ below (va_Qi post (GB (xw cI cZ o W E) (dC, dI) gx_cl [(cI, .int), (cZ, .boolean)] A) A) args s 0 0 A) 3 (dC, dI) gx_cl A (xw cI cZ o W E))) 4 S [v1, v2]) : GV p l e { frames := 0, cells := 0, slots := 0, locals := 0 } s m args below meth c (MQ below (va_Qi post (GB (xw cI cZ o W E) (dC, dI) gx_cl [(cI, .int), (cZ, .boolean)] A) A) args s 0 0 A) 3 (dC, dI) gx_cl A (xw cI cZ o W E) S 4 [(0, .ref (o 5)), (1, .int v1), (2, .int v2)] [] := by
  refine gx_iload_n C dF_allWords_4 2 rfl rfl ?_
  refine gx_aload_n C dF_allWords_5 0 rfl rfl ?_
  refine gx_get C xo_fc hi_F 2 (by decide) fl_F_18 rfl dF_allWords_6 ?_
  obtain ⟨ht, hf⟩ := hs
  refine gx_icmp_ge C dF_allWords_9 27 rfl (fun hc => ?_) (fun hc => ?_)
  · have hs := ht hc
    refine gx_iload_n C dF_allWords_27 1 rfl rfl ?_
    exact gx_iret C hr hlocks dF_allWords_28 hs
  · have hs := hf hc
    refine gx_iload_n C dF_allWords_12 1 rfl rfl ?_
    refine gx_aload_n C dF_allWords_13 0 rfl rfl ?_
    refine gx_get C xo_fc hi_F 1 (by decide) fl_F_15 rfl dF_allWords_14 ?_
    refine gx_iload_n C dF_allWords_17 2 rfl rfl ?_
    obtain ⟨hin, hs⟩ := hs
    refine gx_iald C xa_sizes hin dF_allWords_18 ?_
    refine gx_iadd C dF_allWords_19 ?_
    refine gx_top (fun y1 ey1 => ?_)
    replace hs := hs y1 ey1
    refine gx_istore_n (L' := [(1, .int y1), (0, .ref (o 5)), (2, .int v2)]) C dF_allWords_20 rfl (by decide) rfl ?_
    refine gx_iinc (v0 := 1) (f := fun v => [(2, .int v), (1, .int y1), (0, .ref (o 5))]) C dF_allWords_21 2 rfl (by decide) (by decide) (fun _ => rfl) (fun y2 ey2 => ?_)
    replace hs := hs y2 ey2
    refine gx_goto C dF_allWords_24 4 rfl ?_
    exact gx_sub [2, 1, 0] rfl hs
set_option maxHeartbeats 4000000 in
set_option maxRecDepth 100000 in
theorem mt_F_allWords (l : Launch) (dC : Nat → ClassId) (dI : Nat → Nat → Nat) (cI cZ : ClassId) (o : Nat → Nat) (W E : Nat) (S : GS) (post : Int32 → GS → Prop) (h : wp_F_allWords W E [] S post) : MetI l yF_allWords (Cond.code yF_allWords cF_allWords 3 (some .int) :: wsA) ({ frames := 0, cells := 0, slots := 0, locals := 0 }) (dC, dI) gx_cl [(cI, .int), (cZ, .boolean)] (xw cI cZ o W E) [.ref (o 5)] S post := by
  refine gx_metI (by decide) wsA_good (Nat.le_of_ble_eq_true rfl) ?_
  intro p e s m args below meth c A C hr hlocks
  refine h (vh_F_allWords o (GV p l e { frames := 0, cells := 0, slots := 0, locals := 0 } s m args below meth c (MQ below (va_Qi post (GB (xw cI cZ o W E) (dC, dI) gx_cl [(cI, .int), (cZ, .boolean)] A) A) args s 0 0 A) 3 (dC, dI) gx_cl A (xw cI cZ o W E))) (fun h S xs hs => ?_)
  unfold sp_F_allWords at hs
  split at hs
  · exact wk_F_allWords_0 C hr hlocks _ hs
  · exact wk_F_allWords_4 C hr hlocks _ _ _ hs
  · exact hs.elim
end
