/-! Names: the classes, their fields, their methods, the words of the tables by their places. -/
def RX : String := "CountedObjects"
def RF : String := "CountedObjects$FreeChunks"
def RM : String := "CountedObjectsModel"
def RL : String := "CountedObjectsLaw"
def TX : u_T := fun k => match k with
  | 0 => ("CountedObjects", "words", "[I", true)
  | 1 => ("CountedObjects", "addresses", "[I", true)
  | 2 => ("CountedObjects", "counts", "[I", true)
  | 3 => ("CountedObjects", "registers", "[I", true)
  | 4 => ("CountedObjects", "freeChunks", "LCountedObjects$FreeChunks;", true)
  | 5 => ("CountedObjects", "isReached", "[Z", true)
  | 6 => ("CountedObjects", "reachedEntries", "[I", true)
  | _ => ("CountedObjects", "reachedHeld", "I", false)
def tyX : Nat → FieldType := fun k => match k with
  | 0 => .array .int
  | 1 => .array .int
  | 2 => .array .int
  | 3 => .array .int
  | 4 => .object "CountedObjects$FreeChunks"
  | 5 => .array .boolean
  | 6 => .array .int
  | _ => .int
theorem nmX : ∀ a, a < 8 → ∀ b, b < 8 → a ≠ b → (TX a).2.1 ≠ (TX b).2.1 := by decide +kernel
theorem tyX_ok : ∀ k, k < 8 → parseFieldDescriptor (TX k).2.2.1 = some (tyX k) := by decide +kernel
def TF : u_T := fun k => match k with
  | 0 => ("CountedObjects$FreeChunks", "starts", "[I", true)
  | 1 => ("CountedObjects$FreeChunks", "sizes", "[I", true)
  | _ => ("CountedObjects$FreeChunks", "held", "I", false)
def tyF : Nat → FieldType := fun k => match k with
  | 0 => .array .int
  | 1 => .array .int
  | _ => .int
theorem nmF : ∀ a, a < 3 → ∀ b, b < 3 → a ≠ b → (TF a).2.1 ≠ (TF b).2.1 := by decide +kernel
theorem tyF_ok : ∀ k, k < 3 → parseFieldDescriptor (TF k).2.2.1 = some (tyF k) := by decide +kernel
def TM : u_T := fun k => match k with
  | 0 => ("CountedObjectsModel", "thrown", "I", false)
  | 1 => ("CountedObjectsModel", "words", "I", true)
  | 2 => ("CountedObjectsModel", "entries", "I", true)
  | 3 => ("CountedObjectsModel", "registers", "[I", true)
  | 4 => ("CountedObjectsModel", "lives", "[Z", true)
  | 5 => ("CountedObjectsModel", "addresses", "[I", true)
  | 6 => ("CountedObjectsModel", "sizes", "[I", true)
  | 7 => ("CountedObjectsModel", "counts", "[I", true)
  | 8 => ("CountedObjectsModel", "word", "[I", true)
  | 9 => ("CountedObjectsModel", "frees", "I", false)
  | 10 => ("CountedObjectsModel", "begins", "[I", true)
  | 11 => ("CountedObjectsModel", "lengths", "[I", true)
  | 12 => ("CountedObjectsModel", "came", "[I", true)
  | 13 => ("CountedObjectsModel", "clock", "I", false)
  | 14 => ("CountedObjectsModel", "going", "I", false)
  | 15 => ("CountedObjectsModel", "goes", "[I", true)
  | 16 => ("CountedObjectsModel", "next", "[I", true)
  | _ => ("CountedObjectsModel", "reached", "[Z", true)
def tyM : Nat → FieldType := fun k => match k with
  | 0 => .int
  | 1 => .int
  | 2 => .int
  | 3 => .array .int
  | 4 => .array .boolean
  | 5 => .array .int
  | 6 => .array .int
  | 7 => .array .int
  | 8 => .array .int
  | 9 => .int
  | 10 => .array .int
  | 11 => .array .int
  | 12 => .array .int
  | 13 => .int
  | 14 => .int
  | 15 => .array .int
  | 16 => .array .int
  | _ => .array .boolean
theorem nmM : ∀ a, a < 18 → ∀ b, b < 18 → a ≠ b → (TM a).2.1 ≠ (TM b).2.1 := by decide +kernel
theorem tyM_ok : ∀ k, k < 18 → parseFieldDescriptor (TM k).2.2.1 = some (tyM k) := by decide +kernel
abbrev cX_init : ByteArray := prog_1_method_1_code
def yX_init : MethodName := ⟨RX, "<init>", "(II)V"⟩
abbrev cF_init : ByteArray := prog_2_method_1_code
def yF_init : MethodName := ⟨RF, "<init>", "(I)V"⟩
abbrev cX_collect : ByteArray := prog_1_method_10_code
def yX_collect : MethodName := ⟨RX, "collect", "()I"⟩
abbrev cX_takeUnreached : ByteArray := prog_1_method_36_code
def yX_takeUnreached : MethodName := ⟨RX, "takeUnreached", "(I)I"⟩
abbrev cX_findReached : ByteArray := prog_1_method_37_code
def yX_findReached : MethodName := ⟨RX, "findReached", "(I)V"⟩
abbrev cX_reach : ByteArray := prog_1_method_38_code
def yX_reach : MethodName := ⟨RX, "reach", "(I)V"⟩
abbrev cX_isObject : ByteArray := prog_1_method_20_code
def yX_isObject : MethodName := ⟨RX, "isObject", "(I)Z"⟩
abbrev cX_isUsed : ByteArray := prog_1_method_19_code
def yX_isUsed : MethodName := ⟨RX, "isUsed", "(I)Z"⟩
abbrev cX_wordsOf : ByteArray := prog_1_method_24_code
def yX_wordsOf : MethodName := ⟨RX, "wordsOf", "(I)I"⟩
abbrev cX_freeEntry : ByteArray := prog_1_method_31_code
def yX_freeEntry : MethodName := ⟨RX, "freeEntry", "(I)V"⟩
abbrev cF_add : ByteArray := prog_2_method_2_code
def yF_add : MethodName := ⟨RF, "add", "(II)V"⟩
abbrev cX_countAnew : ByteArray := prog_1_method_39_code
def yX_countAnew : MethodName := ⟨RX, "countAnew", "()V"⟩
abbrev cX_addReference : ByteArray := prog_1_method_28_code
def yX_addReference : MethodName := ⟨RX, "addReference", "(I)V"⟩
abbrev cX_compact : ByteArray := prog_1_method_11_code
def yX_compact : MethodName := ⟨RX, "compact", "()I"⟩
abbrev cX_moveTogether : ByteArray := prog_1_method_34_code
def yX_moveTogether : MethodName := ⟨RX, "moveTogether", "()I"⟩
abbrev cX_lowestFrom : ByteArray := prog_1_method_35_code
def yX_lowestFrom : MethodName := ⟨RX, "lowestFrom", "(I)I"⟩
abbrev cF_clear : ByteArray := prog_2_method_3_code
def yF_clear : MethodName := ⟨RF, "clear", "()V"⟩
abbrev cX_exists : ByteArray := prog_1_method_12_code
def yX_exists : MethodName := ⟨RX, "exists", "(I)Z"⟩
abbrev cX_count : ByteArray := prog_1_method_13_code
def yX_count : MethodName := ⟨RX, "count", "(I)I"⟩
abbrev cX_address : ByteArray := prog_1_method_14_code
def yX_address : MethodName := ⟨RX, "address", "(I)I"⟩
abbrev cX_chunks : ByteArray := prog_1_method_15_code
def yX_chunks : MethodName := ⟨RX, "chunks", "(I)I"⟩
abbrev cF_ofSize : ByteArray := prog_2_method_7_code
def yF_ofSize : MethodName := ⟨RF, "ofSize", "(I)I"⟩
abbrev cX_free : ByteArray := prog_1_method_16_code
def yX_free : MethodName := ⟨RX, "free", "()I"⟩
abbrev cF_allWords : ByteArray := prog_2_method_8_code
def yF_allWords : MethodName := ⟨RF, "allWords", "()I"⟩
abbrev cX_objects : ByteArray := prog_1_method_17_code
def yX_objects : MethodName := ⟨RX, "objects", "()I"⟩
abbrev cL_cell : ByteArray := method_2_code
def yL_cell : MethodName := ⟨RL, "cell", "([II)I"⟩
abbrev cL_instantiate : ByteArray := method_3_code
def yL_instantiate : MethodName := ⟨RL, "instantiate", "(LCountedObjects;III[J)I"⟩
abbrev cX_instantiate : ByteArray := prog_1_method_2_code
def yX_instantiate : MethodName := ⟨RX, "instantiate", "(III)I"⟩
abbrev cX_isRegister : ByteArray := prog_1_method_18_code
def yX_isRegister : MethodName := ⟨RX, "isRegister", "(I)Z"⟩
abbrev cX_isValue : ByteArray := prog_1_method_21_code
def yX_isValue : MethodName := ⟨RX, "isValue", "(I)Z"⟩
abbrev cX_findRoom : ByteArray := prog_1_method_32_code
def yX_findRoom : MethodName := ⟨RX, "findRoom", "(II)I"⟩
abbrev cX_leastFreeEntry : ByteArray := prog_1_method_25_code
def yX_leastFreeEntry : MethodName := ⟨RX, "leastFreeEntry", "()I"⟩
abbrev cX_place : ByteArray := prog_1_method_33_code
def yX_place : MethodName := ⟨RX, "place", "(I)I"⟩
abbrev cF_take : ByteArray := prog_2_method_4_code
def yF_take : MethodName := ⟨RF, "take", "(I)I"⟩
abbrev cF_bestFor : ByteArray := prog_2_method_5_code
def yF_bestFor : MethodName := ⟨RF, "bestFor", "(I)I"⟩
abbrev cF_remove : ByteArray := prog_2_method_6_code
def yF_remove : MethodName := ⟨RF, "remove", "(I)V"⟩
abbrev cX_makeObject : ByteArray := prog_1_method_26_code
def yX_makeObject : MethodName := ⟨RX, "makeObject", "(IIII)V"⟩
abbrev cX_replaceRegister : ByteArray := prog_1_method_27_code
def yX_replaceRegister : MethodName := ⟨RX, "replaceRegister", "(II)I"⟩
abbrev cX_dropReference : ByteArray := prog_1_method_29_code
def yX_dropReference : MethodName := ⟨RX, "dropReference", "(II)V"⟩
abbrev cX_letGo : ByteArray := prog_1_method_30_code
def yX_letGo : MethodName := ⟨RX, "letGo", "(II)V"⟩
abbrev cL_set : ByteArray := method_4_code
def yL_set : MethodName := ⟨RL, "set", "(LCountedObjects;II[J)I"⟩
abbrev cX_set : ByteArray := prog_1_method_3_code
def yX_set : MethodName := ⟨RX, "set", "(II)I"⟩
abbrev cL_register : ByteArray := method_5_code
def yL_register : MethodName := ⟨RL, "register", "(LCountedObjects;I[J)I"⟩
abbrev cX_register : ByteArray := prog_1_method_4_code
def yX_register : MethodName := ⟨RX, "register", "(I)I"⟩
abbrev cL_fetch : ByteArray := method_6_code
def yL_fetch : MethodName := ⟨RL, "fetch", "(LCountedObjects;II[J)I"⟩
abbrev cX_fetch : ByteArray := prog_1_method_5_code
def yX_fetch : MethodName := ⟨RX, "fetch", "(II)I"⟩
abbrev cX_hasField : ByteArray := prog_1_method_22_code
def yX_hasField : MethodName := ⟨RX, "hasField", "(II)Z"⟩
abbrev cX_fieldWord : ByteArray := prog_1_method_23_code
def yX_fieldWord : MethodName := ⟨RX, "fieldWord", "(II)I"⟩
abbrev cL_store : ByteArray := method_7_code
def yL_store : MethodName := ⟨RL, "store", "(LCountedObjects;III[J)I"⟩
abbrev cX_store : ByteArray := prog_1_method_6_code
def yX_store : MethodName := ⟨RX, "store", "(III)I"⟩
abbrev cL_type : ByteArray := method_8_code
def yL_type : MethodName := ⟨RL, "type", "(LCountedObjects;I[J)I"⟩
abbrev cX_type : ByteArray := prog_1_method_7_code
def yX_type : MethodName := ⟨RX, "type", "(I)I"⟩
abbrev cL_fields : ByteArray := method_9_code
def yL_fields : MethodName := ⟨RL, "fields", "(LCountedObjects;I[J)I"⟩
abbrev cX_fields : ByteArray := prog_1_method_8_code
def yX_fields : MethodName := ⟨RX, "fields", "(I)I"⟩
abbrev cL_become : ByteArray := method_10_code
def yL_become : MethodName := ⟨RL, "become", "(LCountedObjects;II)I"⟩
abbrev cX_become : ByteArray := prog_1_method_9_code
def yX_become : MethodName := ⟨RX, "become", "(II)V"⟩
abbrev cM_init : ByteArray := prog_4_method_1_code
def yM_init : MethodName := ⟨RM, "<init>", "(II)V"⟩
abbrev cM_give : ByteArray := prog_4_method_7_code
def yM_give : MethodName := ⟨RM, "give", "(II)V"⟩
abbrev cM_thrown : ByteArray := prog_4_method_2_code
def yM_thrown : MethodName := ⟨RM, "thrown", "()I"⟩
abbrev cM_instantiate : ByteArray := prog_4_method_21_code
def yM_instantiate : MethodName := ⟨RM, "instantiate", "(III)I"⟩
abbrev cM_isRegister : ByteArray := prog_4_method_6_code
def yM_isRegister : MethodName := ⟨RM, "isRegister", "(I)Z"⟩
abbrev cM_isValue : ByteArray := prog_4_method_5_code
def yM_isValue : MethodName := ⟨RM, "isValue", "(I)Z"⟩
abbrev cM_leads : ByteArray := prog_4_method_3_code
def yM_leads : MethodName := ⟨RM, "leads", "(I)Z"⟩
abbrev cM_isObject : ByteArray := prog_4_method_4_code
def yM_isObject : MethodName := ⟨RM, "isObject", "(I)Z"⟩
abbrev cM_freeEntry : ByteArray := prog_4_method_20_code
def yM_freeEntry : MethodName := ⟨RM, "freeEntry", "()I"⟩
abbrev cM_gather : ByteArray := prog_4_method_19_code
def yM_gather : MethodName := ⟨RM, "gather", "(I)I"⟩
abbrev cM_reach : ByteArray := prog_4_method_17_code
def yM_reach : MethodName := ⟨RM, "reach", "(I)Z"⟩
abbrev cM_spread : ByteArray := prog_4_method_18_code
def yM_spread : MethodName := ⟨RM, "spread", "(I)Z"⟩
abbrev cM_takeAway : ByteArray := prog_4_method_14_code
def yM_takeAway : MethodName := ⟨RM, "takeAway", "(I)V"⟩
abbrev cM_comes : ByteArray := prog_4_method_12_code
def yM_comes : MethodName := ⟨RM, "comes", "(I)V"⟩
abbrev cM_place : ByteArray := prog_4_method_11_code
def yM_place : MethodName := ⟨RM, "place", "(I)I"⟩
abbrev cM_fitting : ByteArray := prog_4_method_9_code
def yM_fitting : MethodName := ⟨RM, "fitting", "(I)I"⟩
abbrev cM_freeWords : ByteArray := prog_4_method_8_code
def yM_freeWords : MethodName := ⟨RM, "freeWords", "()I"⟩
abbrev cM_pack : ByteArray := prog_4_method_10_code
def yM_pack : MethodName := ⟨RM, "pack", "()I"⟩
abbrev cM_replace : ByteArray := prog_4_method_16_code
def yM_replace : MethodName := ⟨RM, "replace", "(II)I"⟩
abbrev cM_leaves : ByteArray := prog_4_method_15_code
def yM_leaves : MethodName := ⟨RM, "leaves", "(I)V"⟩
abbrev cM_less : ByteArray := prog_4_method_13_code
def yM_less : MethodName := ⟨RM, "less", "(I)V"⟩
abbrev cM_set : ByteArray := prog_4_method_22_code
def yM_set : MethodName := ⟨RM, "set", "(II)I"⟩
abbrev cM_register : ByteArray := prog_4_method_23_code
def yM_register : MethodName := ⟨RM, "register", "(I)I"⟩
abbrev cM_fetch : ByteArray := prog_4_method_25_code
def yM_fetch : MethodName := ⟨RM, "fetch", "(II)I"⟩
abbrev cM_hasField : ByteArray := prog_4_method_24_code
def yM_hasField : MethodName := ⟨RM, "hasField", "(II)Z"⟩
abbrev cM_store : ByteArray := prog_4_method_26_code
def yM_store : MethodName := ⟨RM, "store", "(III)I"⟩
abbrev cM_type : ByteArray := prog_4_method_27_code
def yM_type : MethodName := ⟨RM, "type", "(I)I"⟩
abbrev cM_fields : ByteArray := prog_4_method_28_code
def yM_fields : MethodName := ⟨RM, "fields", "(I)I"⟩
abbrev cM_become : ByteArray := prog_4_method_29_code
def yM_become : MethodName := ⟨RM, "become", "(II)V"⟩
abbrev cM_collect : ByteArray := prog_4_method_30_code
def yM_collect : MethodName := ⟨RM, "collect", "()I"⟩
abbrev cM_compact : ByteArray := prog_4_method_31_code
def yM_compact : MethodName := ⟨RM, "compact", "()I"⟩
abbrev cM_exists : ByteArray := prog_4_method_32_code
def yM_exists : MethodName := ⟨RM, "exists", "(I)Z"⟩
abbrev cM_count : ByteArray := prog_4_method_33_code
def yM_count : MethodName := ⟨RM, "count", "(I)I"⟩
abbrev cM_address : ByteArray := prog_4_method_34_code
def yM_address : MethodName := ⟨RM, "address", "(I)I"⟩
abbrev cM_chunks : ByteArray := prog_4_method_35_code
def yM_chunks : MethodName := ⟨RM, "chunks", "(I)I"⟩
abbrev cM_free : ByteArray := prog_4_method_36_code
def yM_free : MethodName := ⟨RM, "free", "()I"⟩
abbrev cM_objects : ByteArray := prog_4_method_37_code
def yM_objects : MethodName := ⟨RM, "objects", "()I"⟩
abbrev gx_cl : List vw_C := [(RX, TX, 8), (RF, TF, 3), (RM, TM, 18)]
/-- the good words of the tables -/
def wsA : List Cond := lw_tbl.filter goodWord
theorem wsA_good : ∀ w ∈ wsA, goodWord w = true := fun w h => (List.mem_filter.mp h).2
theorem wsA_tbl : ∀ w ∈ wsA, w ∈ lw_tbl := fun w h => (List.mem_filter.mp h).1
theorem wsA_in {w : Cond} {i : Nat} (h : tables_1[i]? = some w) (hg : goodWord w = true) : w ∈ wsA := List.mem_filter.mpr ⟨List.mem_append_right _ (List.mem_of_getElem? h), hg⟩
theorem wsA_sel {w : Cond} (h : w ∈ k2_sels lw_privs) (hg : goodWord w = true) : w ∈ wsA := List.mem_filter.mpr ⟨List.mem_append_left _ h, hg⟩
theorem in_CountedObjectsLaw : Cond.initialized RL ∈ wsA := wsA_in (i := 0) (by decide +kernel) (by decide +kernel)
theorem in_CountedObjects : Cond.initialized RX ∈ wsA := wsA_in (i := 1) (by decide +kernel) (by decide +kernel)
theorem in_java_lang_Math : Cond.initialized "java/lang/Math" ∈ wsA := wsA_in (i := 2) (by decide +kernel) (by decide +kernel)
theorem in_CountedObjects_FreeChunks : Cond.initialized RF ∈ wsA := wsA_in (i := 3) (by decide +kernel) (by decide +kernel)
theorem in_java_util_Arrays : Cond.initialized "java/util/Arrays" ∈ wsA := wsA_in (i := 4) (by decide +kernel) (by decide +kernel)
theorem in_CountedObjectsModel : Cond.initialized RM ∈ wsA := wsA_in (i := 5) (by decide +kernel) (by decide +kernel)
theorem in_java_lang_Throwable : Cond.initialized "java/lang/Throwable" ∈ wsA := wsA_in (i := 6) (by decide +kernel) (by decide +kernel)
theorem in_java_lang_Exception : Cond.initialized "java/lang/Exception" ∈ wsA := wsA_in (i := 7) (by decide +kernel) (by decide +kernel)
theorem in_java_lang_RuntimeException : Cond.initialized "java/lang/RuntimeException" ∈ wsA := wsA_in (i := 8) (by decide +kernel) (by decide +kernel)
theorem in_java_lang_IndexOutOfBoundsException : Cond.initialized "java/lang/IndexOutOfBoundsException" ∈ wsA := wsA_in (i := 9) (by decide +kernel) (by decide +kernel)
theorem in_java_lang_IllegalArgumentException : Cond.initialized "java/lang/IllegalArgumentException" ∈ wsA := wsA_in (i := 10) (by decide +kernel) (by decide +kernel)
theorem in_java_lang_System : Cond.initialized "java/lang/System" ∈ wsA := wsA_in (i := 11) (by decide +kernel) (by decide +kernel)
theorem in_java_lang_IllegalStateException : Cond.initialized "java/lang/IllegalStateException" ∈ wsA := wsA_in (i := 12) (by decide +kernel) (by decide +kernel)
theorem ln_L_49 : Cond.methodLink RL 49 yX_init ∈ wsA := wsA_in (i := 15) (by decide +kernel) (by decide +kernel)
theorem im_X_init : Cond.instanceMethod yX_init ∈ wsA := wsA_in (i := 16) (by decide +kernel) (by decide +kernel)
theorem cd_X_init : Cond.code yX_init cX_init 5 none ∈ wsA := wsA_in (i := 17) (by decide +kernel) (by decide +kernel)
theorem ln_X_33 : Cond.methodLink RX 33 yF_init ∈ wsA := wsA_in (i := 29) (by decide +kernel) (by decide +kernel)
theorem im_F_init : Cond.instanceMethod yF_init ∈ wsA := wsA_in (i := 30) (by decide +kernel) (by decide +kernel)
theorem cd_F_init : Cond.code yF_init cF_init 2 none ∈ wsA := wsA_in (i := 31) (by decide +kernel) (by decide +kernel)
theorem fl_F_9 : Cond.fieldLink RF 9 "CountedObjects$FreeChunks" "starts" "[I" ∈ wsA := wsA_in (i := 33) (by decide +kernel) (by decide +kernel)
theorem fl_F_15 : Cond.fieldLink RF 15 "CountedObjects$FreeChunks" "sizes" "[I" ∈ wsA := wsA_in (i := 34) (by decide +kernel) (by decide +kernel)
theorem fl_F_18 : Cond.fieldLink RF 18 "CountedObjects$FreeChunks" "held" "I" ∈ wsA := wsA_in (i := 35) (by decide +kernel) (by decide +kernel)
theorem la_F_starts : Cond.laysFinal RF "CountedObjects$FreeChunks" "starts" "[I" ∈ wsA := wsA_in (i := 37) (by decide +kernel) (by decide +kernel)
theorem la_F_sizes : Cond.laysFinal RF "CountedObjects$FreeChunks" "sizes" "[I" ∈ wsA := wsA_in (i := 39) (by decide +kernel) (by decide +kernel)
theorem la_F_held : Cond.lays RF "CountedObjects$FreeChunks" "held" "I" ∈ wsA := wsA_in (i := 41) (by decide +kernel) (by decide +kernel)
theorem ac_int : Cond.arrayClass .int ∈ wsA := wsA_in (i := 44) (by decide +kernel) (by decide +kernel)
theorem fl_X_18 : Cond.fieldLink RX 18 "CountedObjects" "words" "[I" ∈ wsA := wsA_in (i := 48) (by decide +kernel) (by decide +kernel)
theorem fl_X_22 : Cond.fieldLink RX 22 "CountedObjects" "addresses" "[I" ∈ wsA := wsA_in (i := 49) (by decide +kernel) (by decide +kernel)
theorem fl_X_25 : Cond.fieldLink RX 25 "CountedObjects" "counts" "[I" ∈ wsA := wsA_in (i := 50) (by decide +kernel) (by decide +kernel)
theorem fl_X_28 : Cond.fieldLink RX 28 "CountedObjects" "registers" "[I" ∈ wsA := wsA_in (i := 51) (by decide +kernel) (by decide +kernel)
theorem fl_X_36 : Cond.fieldLink RX 36 "CountedObjects" "freeChunks" "LCountedObjects$FreeChunks;" ∈ wsA := wsA_in (i := 52) (by decide +kernel) (by decide +kernel)
theorem fl_X_40 : Cond.fieldLink RX 40 "CountedObjects" "isReached" "[Z" ∈ wsA := wsA_in (i := 53) (by decide +kernel) (by decide +kernel)
theorem fl_X_44 : Cond.fieldLink RX 44 "CountedObjects" "reachedEntries" "[I" ∈ wsA := wsA_in (i := 54) (by decide +kernel) (by decide +kernel)
theorem fl_X_47 : Cond.fieldLink RX 47 "CountedObjects" "reachedHeld" "I" ∈ wsA := wsA_in (i := 55) (by decide +kernel) (by decide +kernel)
theorem la_X_words : Cond.laysFinal RX "CountedObjects" "words" "[I" ∈ wsA := wsA_in (i := 56) (by decide +kernel) (by decide +kernel)
theorem la_X_addresses : Cond.laysFinal RX "CountedObjects" "addresses" "[I" ∈ wsA := wsA_in (i := 58) (by decide +kernel) (by decide +kernel)
theorem la_X_counts : Cond.laysFinal RX "CountedObjects" "counts" "[I" ∈ wsA := wsA_in (i := 60) (by decide +kernel) (by decide +kernel)
theorem la_X_registers : Cond.laysFinal RX "CountedObjects" "registers" "[I" ∈ wsA := wsA_in (i := 62) (by decide +kernel) (by decide +kernel)
theorem la_X_freeChunks : Cond.laysFinal RX "CountedObjects" "freeChunks" "LCountedObjects$FreeChunks;" ∈ wsA := wsA_in (i := 64) (by decide +kernel) (by decide +kernel)
theorem la_X_isReached : Cond.laysFinal RX "CountedObjects" "isReached" "[Z" ∈ wsA := wsA_in (i := 66) (by decide +kernel) (by decide +kernel)
theorem la_X_reachedEntries : Cond.laysFinal RX "CountedObjects" "reachedEntries" "[I" ∈ wsA := wsA_in (i := 68) (by decide +kernel) (by decide +kernel)
theorem la_X_reachedHeld : Cond.lays RX "CountedObjects" "reachedHeld" "I" ∈ wsA := wsA_in (i := 70) (by decide +kernel) (by decide +kernel)
theorem ac_boolean : Cond.arrayClass .boolean ∈ wsA := wsA_in (i := 73) (by decide +kernel) (by decide +kernel)
theorem ln_L_86 : Cond.methodLink RL 86 yX_collect ∈ wsA := wsA_in (i := 74) (by decide +kernel) (by decide +kernel)
theorem im_X_collect : Cond.instanceMethod yX_collect ∈ wsA := wsA_in (i := 75) (by decide +kernel) (by decide +kernel)
theorem se_X_collect : Cond.selects RX yX_collect yX_collect ∈ wsA := wsA_in (i := 76) (by decide +kernel) (by decide +kernel)
theorem cd_X_collect : Cond.code yX_collect cX_collect 1 (some .int) ∈ wsA := wsA_in (i := 77) (by decide +kernel) (by decide +kernel)
theorem ln_X_104 : Cond.methodLink RX 104 yX_takeUnreached ∈ wsA := wsA_in (i := 78) (by decide +kernel) (by decide +kernel)
theorem im_X_takeUnreached : Cond.instanceMethod yX_takeUnreached ∈ wsA := wsA_in (i := 80) (by decide +kernel) (by decide +kernel)
theorem cd_X_takeUnreached : Cond.code yX_takeUnreached cX_takeUnreached 4 (some .int) ∈ wsA := wsA_in (i := 81) (by decide +kernel) (by decide +kernel)
theorem ln_X_153 : Cond.methodLink RX 153 yX_findReached ∈ wsA := wsA_in (i := 82) (by decide +kernel) (by decide +kernel)
theorem im_X_findReached : Cond.instanceMethod yX_findReached ∈ wsA := wsA_in (i := 84) (by decide +kernel) (by decide +kernel)
theorem cd_X_findReached : Cond.code yX_findReached cX_findReached 6 none ∈ wsA := wsA_in (i := 85) (by decide +kernel) (by decide +kernel)
theorem ln_X_159 : Cond.methodLink RX 159 yX_reach ∈ wsA := wsA_in (i := 86) (by decide +kernel) (by decide +kernel)
theorem im_X_reach : Cond.instanceMethod yX_reach ∈ wsA := wsA_in (i := 88) (by decide +kernel) (by decide +kernel)
theorem cd_X_reach : Cond.code yX_reach cX_reach 2 none ∈ wsA := wsA_in (i := 89) (by decide +kernel) (by decide +kernel)
theorem ln_X_87 : Cond.methodLink RX 87 yX_isObject ∈ wsA := wsA_in (i := 90) (by decide +kernel) (by decide +kernel)
theorem im_X_isObject : Cond.instanceMethod yX_isObject ∈ wsA := wsA_in (i := 92) (by decide +kernel) (by decide +kernel)
theorem cd_X_isObject : Cond.code yX_isObject cX_isObject 2 (some .boolean) ∈ wsA := wsA_in (i := 93) (by decide +kernel) (by decide +kernel)
theorem ln_X_120 : Cond.methodLink RX 120 yX_isUsed ∈ wsA := wsA_in (i := 94) (by decide +kernel) (by decide +kernel)
theorem im_X_isUsed : Cond.instanceMethod yX_isUsed ∈ wsA := wsA_in (i := 96) (by decide +kernel) (by decide +kernel)
theorem cd_X_isUsed : Cond.code yX_isUsed cX_isUsed 2 (some .boolean) ∈ wsA := wsA_in (i := 97) (by decide +kernel) (by decide +kernel)
theorem ln_X_126 : Cond.methodLink RX 126 yX_wordsOf ∈ wsA := wsA_in (i := 98) (by decide +kernel) (by decide +kernel)
theorem im_X_wordsOf : Cond.instanceMethod yX_wordsOf ∈ wsA := wsA_in (i := 100) (by decide +kernel) (by decide +kernel)
theorem cd_X_wordsOf : Cond.code yX_wordsOf cX_wordsOf 2 (some .int) ∈ wsA := wsA_in (i := 101) (by decide +kernel) (by decide +kernel)
theorem ln_X_129 : Cond.methodLink RX 129 yX_freeEntry ∈ wsA := wsA_in (i := 102) (by decide +kernel) (by decide +kernel)
theorem im_X_freeEntry : Cond.instanceMethod yX_freeEntry ∈ wsA := wsA_in (i := 104) (by decide +kernel) (by decide +kernel)
theorem cd_X_freeEntry : Cond.code yX_freeEntry cX_freeEntry 2 none ∈ wsA := wsA_in (i := 105) (by decide +kernel) (by decide +kernel)
theorem ln_X_132 : Cond.methodLink RX 132 yF_add ∈ wsA := wsA_in (i := 106) (by decide +kernel) (by decide +kernel)
theorem im_F_add : Cond.instanceMethod yF_add ∈ wsA := wsA_in (i := 107) (by decide +kernel) (by decide +kernel)
theorem se_F_add : Cond.selects RF yF_add yF_add ∈ wsA := wsA_in (i := 108) (by decide +kernel) (by decide +kernel)
theorem cd_F_add : Cond.code yF_add cF_add 3 none ∈ wsA := wsA_in (i := 109) (by decide +kernel) (by decide +kernel)
theorem ln_X_156 : Cond.methodLink RX 156 yX_countAnew ∈ wsA := wsA_in (i := 110) (by decide +kernel) (by decide +kernel)
theorem im_X_countAnew : Cond.instanceMethod yX_countAnew ∈ wsA := wsA_in (i := 112) (by decide +kernel) (by decide +kernel)
theorem cd_X_countAnew : Cond.code yX_countAnew cX_countAnew 5 none ∈ wsA := wsA_in (i := 113) (by decide +kernel) (by decide +kernel)
theorem ln_X_97 : Cond.methodLink RX 97 yX_addReference ∈ wsA := wsA_in (i := 114) (by decide +kernel) (by decide +kernel)
theorem im_X_addReference : Cond.instanceMethod yX_addReference ∈ wsA := wsA_in (i := 116) (by decide +kernel) (by decide +kernel)
theorem cd_X_addReference : Cond.code yX_addReference cX_addReference 2 none ∈ wsA := wsA_in (i := 117) (by decide +kernel) (by decide +kernel)
theorem ln_L_90 : Cond.methodLink RL 90 yX_compact ∈ wsA := wsA_in (i := 118) (by decide +kernel) (by decide +kernel)
theorem im_X_compact : Cond.instanceMethod yX_compact ∈ wsA := wsA_in (i := 119) (by decide +kernel) (by decide +kernel)
theorem se_X_compact : Cond.selects RX yX_compact yX_compact ∈ wsA := wsA_in (i := 120) (by decide +kernel) (by decide +kernel)
theorem cd_X_compact : Cond.code yX_compact cX_compact 1 (some .int) ∈ wsA := wsA_in (i := 121) (by decide +kernel) (by decide +kernel)
theorem ln_X_108 : Cond.methodLink RX 108 yX_moveTogether ∈ wsA := wsA_in (i := 122) (by decide +kernel) (by decide +kernel)
theorem im_X_moveTogether : Cond.instanceMethod yX_moveTogether ∈ wsA := wsA_in (i := 124) (by decide +kernel) (by decide +kernel)
theorem cd_X_moveTogether : Cond.code yX_moveTogether cX_moveTogether 6 (some .int) ∈ wsA := wsA_in (i := 125) (by decide +kernel) (by decide +kernel)
theorem ln_X_141 : Cond.methodLink RX 141 yX_lowestFrom ∈ wsA := wsA_in (i := 126) (by decide +kernel) (by decide +kernel)
theorem im_X_lowestFrom : Cond.instanceMethod yX_lowestFrom ∈ wsA := wsA_in (i := 128) (by decide +kernel) (by decide +kernel)
theorem cd_X_lowestFrom : Cond.code yX_lowestFrom cX_lowestFrom 5 (some .int) ∈ wsA := wsA_in (i := 129) (by decide +kernel) (by decide +kernel)
theorem ln_X_150 : Cond.methodLink RX 150 yF_clear ∈ wsA := wsA_in (i := 133) (by decide +kernel) (by decide +kernel)
theorem im_F_clear : Cond.instanceMethod yF_clear ∈ wsA := wsA_in (i := 134) (by decide +kernel) (by decide +kernel)
theorem se_F_clear : Cond.selects RF yF_clear yF_clear ∈ wsA := wsA_in (i := 135) (by decide +kernel) (by decide +kernel)
theorem cd_F_clear : Cond.code yF_clear cF_clear 1 none ∈ wsA := wsA_in (i := 136) (by decide +kernel) (by decide +kernel)
theorem ln_L_94 : Cond.methodLink RL 94 yX_exists ∈ wsA := wsA_in (i := 137) (by decide +kernel) (by decide +kernel)
theorem im_X_exists : Cond.instanceMethod yX_exists ∈ wsA := wsA_in (i := 138) (by decide +kernel) (by decide +kernel)
theorem se_X_exists : Cond.selects RX yX_exists yX_exists ∈ wsA := wsA_in (i := 139) (by decide +kernel) (by decide +kernel)
theorem cd_X_exists : Cond.code yX_exists cX_exists 2 (some .boolean) ∈ wsA := wsA_in (i := 140) (by decide +kernel) (by decide +kernel)
theorem ln_L_99 : Cond.methodLink RL 99 yX_count ∈ wsA := wsA_in (i := 141) (by decide +kernel) (by decide +kernel)
theorem im_X_count : Cond.instanceMethod yX_count ∈ wsA := wsA_in (i := 142) (by decide +kernel) (by decide +kernel)
theorem se_X_count : Cond.selects RX yX_count yX_count ∈ wsA := wsA_in (i := 143) (by decide +kernel) (by decide +kernel)
theorem cd_X_count : Cond.code yX_count cX_count 2 (some .int) ∈ wsA := wsA_in (i := 144) (by decide +kernel) (by decide +kernel)
theorem ln_L_103 : Cond.methodLink RL 103 yX_address ∈ wsA := wsA_in (i := 145) (by decide +kernel) (by decide +kernel)
theorem im_X_address : Cond.instanceMethod yX_address ∈ wsA := wsA_in (i := 146) (by decide +kernel) (by decide +kernel)
theorem se_X_address : Cond.selects RX yX_address yX_address ∈ wsA := wsA_in (i := 147) (by decide +kernel) (by decide +kernel)
theorem cd_X_address : Cond.code yX_address cX_address 2 (some .int) ∈ wsA := wsA_in (i := 148) (by decide +kernel) (by decide +kernel)
theorem ln_L_107 : Cond.methodLink RL 107 yX_chunks ∈ wsA := wsA_in (i := 149) (by decide +kernel) (by decide +kernel)
theorem im_X_chunks : Cond.instanceMethod yX_chunks ∈ wsA := wsA_in (i := 150) (by decide +kernel) (by decide +kernel)
theorem se_X_chunks : Cond.selects RX yX_chunks yX_chunks ∈ wsA := wsA_in (i := 151) (by decide +kernel) (by decide +kernel)
theorem cd_X_chunks : Cond.code yX_chunks cX_chunks 2 (some .int) ∈ wsA := wsA_in (i := 152) (by decide +kernel) (by decide +kernel)
theorem ln_X_114 : Cond.methodLink RX 114 yF_ofSize ∈ wsA := wsA_in (i := 153) (by decide +kernel) (by decide +kernel)
theorem im_F_ofSize : Cond.instanceMethod yF_ofSize ∈ wsA := wsA_in (i := 154) (by decide +kernel) (by decide +kernel)
theorem se_F_ofSize : Cond.selects RF yF_ofSize yF_ofSize ∈ wsA := wsA_in (i := 155) (by decide +kernel) (by decide +kernel)
theorem cd_F_ofSize : Cond.code yF_ofSize cF_ofSize 4 (some .int) ∈ wsA := wsA_in (i := 156) (by decide +kernel) (by decide +kernel)
theorem ln_L_111 : Cond.methodLink RL 111 yX_free ∈ wsA := wsA_in (i := 157) (by decide +kernel) (by decide +kernel)
theorem im_X_free : Cond.instanceMethod yX_free ∈ wsA := wsA_in (i := 158) (by decide +kernel) (by decide +kernel)
theorem se_X_free : Cond.selects RX yX_free yX_free ∈ wsA := wsA_in (i := 159) (by decide +kernel) (by decide +kernel)
theorem cd_X_free : Cond.code yX_free cX_free 1 (some .int) ∈ wsA := wsA_in (i := 160) (by decide +kernel) (by decide +kernel)
theorem ln_X_117 : Cond.methodLink RX 117 yF_allWords ∈ wsA := wsA_in (i := 161) (by decide +kernel) (by decide +kernel)
theorem im_F_allWords : Cond.instanceMethod yF_allWords ∈ wsA := wsA_in (i := 162) (by decide +kernel) (by decide +kernel)
theorem se_F_allWords : Cond.selects RF yF_allWords yF_allWords ∈ wsA := wsA_in (i := 163) (by decide +kernel) (by decide +kernel)
theorem cd_F_allWords : Cond.code yF_allWords cF_allWords 3 (some .int) ∈ wsA := wsA_in (i := 164) (by decide +kernel) (by decide +kernel)
theorem ln_L_115 : Cond.methodLink RL 115 yX_objects ∈ wsA := wsA_in (i := 165) (by decide +kernel) (by decide +kernel)
theorem im_X_objects : Cond.instanceMethod yX_objects ∈ wsA := wsA_in (i := 166) (by decide +kernel) (by decide +kernel)
theorem se_X_objects : Cond.selects RX yX_objects yX_objects ∈ wsA := wsA_in (i := 167) (by decide +kernel) (by decide +kernel)
theorem cd_X_objects : Cond.code yX_objects cX_objects 3 (some .int) ∈ wsA := wsA_in (i := 168) (by decide +kernel) (by decide +kernel)
theorem ln_L_43 : Cond.methodLink RL 43 yL_cell ∈ wsA := wsA_in (i := 169) (by decide +kernel) (by decide +kernel)
theorem sm_L_cell : Cond.static yL_cell ∈ wsA := wsA_in (i := 170) (by decide +kernel) (by decide +kernel)
theorem cd_L_cell : Cond.code yL_cell cL_cell 2 (some .int) ∈ wsA := wsA_in (i := 171) (by decide +kernel) (by decide +kernel)
theorem ln_L_54 : Cond.methodLink RL 54 yL_instantiate ∈ wsA := wsA_in (i := 172) (by decide +kernel) (by decide +kernel)
theorem sm_L_instantiate : Cond.static yL_instantiate ∈ wsA := wsA_in (i := 173) (by decide +kernel) (by decide +kernel)
theorem ln_L_7 : Cond.methodLink RL 7 yX_instantiate ∈ wsA := wsA_in (i := 178) (by decide +kernel) (by decide +kernel)
theorem im_X_instantiate : Cond.instanceMethod yX_instantiate ∈ wsA := wsA_in (i := 179) (by decide +kernel) (by decide +kernel)
theorem se_X_instantiate : Cond.selects RX yX_instantiate yX_instantiate ∈ wsA := wsA_in (i := 180) (by decide +kernel) (by decide +kernel)
theorem cd_X_instantiate : Cond.code yX_instantiate cX_instantiate 6 (some .int) ∈ wsA := wsA_in (i := 181) (by decide +kernel) (by decide +kernel)
theorem ln_X_57 : Cond.methodLink RX 57 yX_isRegister ∈ wsA := wsA_in (i := 182) (by decide +kernel) (by decide +kernel)
theorem sm_X_isRegister : Cond.static yX_isRegister ∈ wsA := wsA_in (i := 183) (by decide +kernel) (by decide +kernel)
theorem cd_X_isRegister : Cond.code yX_isRegister cX_isRegister 1 (some .boolean) ∈ wsA := wsA_in (i := 184) (by decide +kernel) (by decide +kernel)
theorem ln_X_64 : Cond.methodLink RX 64 yX_isValue ∈ wsA := wsA_in (i := 248) (by decide +kernel) (by decide +kernel)
theorem im_X_isValue : Cond.instanceMethod yX_isValue ∈ wsA := wsA_in (i := 250) (by decide +kernel) (by decide +kernel)
theorem cd_X_isValue : Cond.code yX_isValue cX_isValue 2 (some .boolean) ∈ wsA := wsA_in (i := 251) (by decide +kernel) (by decide +kernel)
theorem ln_X_70 : Cond.methodLink RX 70 yX_findRoom ∈ wsA := wsA_in (i := 267) (by decide +kernel) (by decide +kernel)
theorem im_X_findRoom : Cond.instanceMethod yX_findRoom ∈ wsA := wsA_in (i := 269) (by decide +kernel) (by decide +kernel)
theorem cd_X_findRoom : Cond.code yX_findRoom cX_findRoom 5 (some .int) ∈ wsA := wsA_in (i := 270) (by decide +kernel) (by decide +kernel)
theorem ln_X_73 : Cond.methodLink RX 73 yX_leastFreeEntry ∈ wsA := wsA_in (i := 271) (by decide +kernel) (by decide +kernel)
theorem im_X_leastFreeEntry : Cond.instanceMethod yX_leastFreeEntry ∈ wsA := wsA_in (i := 273) (by decide +kernel) (by decide +kernel)
theorem cd_X_leastFreeEntry : Cond.code yX_leastFreeEntry cX_leastFreeEntry 2 (some .int) ∈ wsA := wsA_in (i := 274) (by decide +kernel) (by decide +kernel)
theorem ln_X_135 : Cond.methodLink RX 135 yX_place ∈ wsA := wsA_in (i := 275) (by decide +kernel) (by decide +kernel)
theorem im_X_place : Cond.instanceMethod yX_place ∈ wsA := wsA_in (i := 277) (by decide +kernel) (by decide +kernel)
theorem cd_X_place : Cond.code yX_place cX_place 3 (some .int) ∈ wsA := wsA_in (i := 278) (by decide +kernel) (by decide +kernel)
theorem ln_X_138 : Cond.methodLink RX 138 yF_take ∈ wsA := wsA_in (i := 279) (by decide +kernel) (by decide +kernel)
theorem im_F_take : Cond.instanceMethod yF_take ∈ wsA := wsA_in (i := 280) (by decide +kernel) (by decide +kernel)
theorem se_F_take : Cond.selects RF yF_take yF_take ∈ wsA := wsA_in (i := 281) (by decide +kernel) (by decide +kernel)
theorem cd_F_take : Cond.code yF_take cF_take 5 (some .int) ∈ wsA := wsA_in (i := 282) (by decide +kernel) (by decide +kernel)
theorem ln_F_22 : Cond.methodLink RF 22 yF_bestFor ∈ wsA := wsA_in (i := 283) (by decide +kernel) (by decide +kernel)
theorem im_F_bestFor : Cond.instanceMethod yF_bestFor ∈ wsA := wsA_in (i := 285) (by decide +kernel) (by decide +kernel)
theorem cd_F_bestFor : Cond.code yF_bestFor cF_bestFor 4 (some .int) ∈ wsA := wsA_in (i := 286) (by decide +kernel) (by decide +kernel)
theorem ln_F_26 : Cond.methodLink RF 26 yF_remove ∈ wsA := wsA_in (i := 287) (by decide +kernel) (by decide +kernel)
theorem im_F_remove : Cond.instanceMethod yF_remove ∈ wsA := wsA_in (i := 289) (by decide +kernel) (by decide +kernel)
theorem cd_F_remove : Cond.code yF_remove cF_remove 2 none ∈ wsA := wsA_in (i := 290) (by decide +kernel) (by decide +kernel)
theorem ln_F_30 : Cond.methodLink RF 30 yF_add ∈ wsA := wsA_in (i := 292) (by decide +kernel) (by decide +kernel)
theorem ln_X_80 : Cond.methodLink RX 80 yX_makeObject ∈ wsA := wsA_in (i := 308) (by decide +kernel) (by decide +kernel)
theorem im_X_makeObject : Cond.instanceMethod yX_makeObject ∈ wsA := wsA_in (i := 310) (by decide +kernel) (by decide +kernel)
theorem cd_X_makeObject : Cond.code yX_makeObject cX_makeObject 6 none ∈ wsA := wsA_in (i := 311) (by decide +kernel) (by decide +kernel)
theorem ln_X_84 : Cond.methodLink RX 84 yX_replaceRegister ∈ wsA := wsA_in (i := 312) (by decide +kernel) (by decide +kernel)
theorem im_X_replaceRegister : Cond.instanceMethod yX_replaceRegister ∈ wsA := wsA_in (i := 314) (by decide +kernel) (by decide +kernel)
theorem cd_X_replaceRegister : Cond.code yX_replaceRegister cX_replaceRegister 4 (some .int) ∈ wsA := wsA_in (i := 315) (by decide +kernel) (by decide +kernel)
theorem ln_X_100 : Cond.methodLink RX 100 yX_dropReference ∈ wsA := wsA_in (i := 316) (by decide +kernel) (by decide +kernel)
theorem im_X_dropReference : Cond.instanceMethod yX_dropReference ∈ wsA := wsA_in (i := 318) (by decide +kernel) (by decide +kernel)
theorem cd_X_dropReference : Cond.code yX_dropReference cX_dropReference 3 none ∈ wsA := wsA_in (i := 319) (by decide +kernel) (by decide +kernel)
theorem ln_X_123 : Cond.methodLink RX 123 yX_letGo ∈ wsA := wsA_in (i := 320) (by decide +kernel) (by decide +kernel)
theorem im_X_letGo : Cond.instanceMethod yX_letGo ∈ wsA := wsA_in (i := 322) (by decide +kernel) (by decide +kernel)
theorem cd_X_letGo : Cond.code yX_letGo cX_letGo 5 none ∈ wsA := wsA_in (i := 323) (by decide +kernel) (by decide +kernel)
theorem ln_L_62 : Cond.methodLink RL 62 yL_set ∈ wsA := wsA_in (i := 324) (by decide +kernel) (by decide +kernel)
theorem sm_L_set : Cond.static yL_set ∈ wsA := wsA_in (i := 325) (by decide +kernel) (by decide +kernel)
theorem ln_L_19 : Cond.methodLink RL 19 yX_set ∈ wsA := wsA_in (i := 327) (by decide +kernel) (by decide +kernel)
theorem im_X_set : Cond.instanceMethod yX_set ∈ wsA := wsA_in (i := 328) (by decide +kernel) (by decide +kernel)
theorem se_X_set : Cond.selects RX yX_set yX_set ∈ wsA := wsA_in (i := 329) (by decide +kernel) (by decide +kernel)
theorem cd_X_set : Cond.code yX_set cX_set 3 (some .int) ∈ wsA := wsA_in (i := 330) (by decide +kernel) (by decide +kernel)
theorem ln_L_66 : Cond.methodLink RL 66 yL_register ∈ wsA := wsA_in (i := 331) (by decide +kernel) (by decide +kernel)
theorem sm_L_register : Cond.static yL_register ∈ wsA := wsA_in (i := 332) (by decide +kernel) (by decide +kernel)
theorem ln_L_23 : Cond.methodLink RL 23 yX_register ∈ wsA := wsA_in (i := 334) (by decide +kernel) (by decide +kernel)
theorem im_X_register : Cond.instanceMethod yX_register ∈ wsA := wsA_in (i := 335) (by decide +kernel) (by decide +kernel)
theorem se_X_register : Cond.selects RX yX_register yX_register ∈ wsA := wsA_in (i := 336) (by decide +kernel) (by decide +kernel)
theorem cd_X_register : Cond.code yX_register cX_register 2 (some .int) ∈ wsA := wsA_in (i := 337) (by decide +kernel) (by decide +kernel)
theorem ln_L_70 : Cond.methodLink RL 70 yL_fetch ∈ wsA := wsA_in (i := 338) (by decide +kernel) (by decide +kernel)
theorem sm_L_fetch : Cond.static yL_fetch ∈ wsA := wsA_in (i := 339) (by decide +kernel) (by decide +kernel)
theorem ln_L_27 : Cond.methodLink RL 27 yX_fetch ∈ wsA := wsA_in (i := 341) (by decide +kernel) (by decide +kernel)
theorem im_X_fetch : Cond.instanceMethod yX_fetch ∈ wsA := wsA_in (i := 342) (by decide +kernel) (by decide +kernel)
theorem se_X_fetch : Cond.selects RX yX_fetch yX_fetch ∈ wsA := wsA_in (i := 343) (by decide +kernel) (by decide +kernel)
theorem cd_X_fetch : Cond.code yX_fetch cX_fetch 3 (some .int) ∈ wsA := wsA_in (i := 344) (by decide +kernel) (by decide +kernel)
theorem ln_X_90 : Cond.methodLink RX 90 yX_hasField ∈ wsA := wsA_in (i := 345) (by decide +kernel) (by decide +kernel)
theorem im_X_hasField : Cond.instanceMethod yX_hasField ∈ wsA := wsA_in (i := 347) (by decide +kernel) (by decide +kernel)
theorem cd_X_hasField : Cond.code yX_hasField cX_hasField 3 (some .boolean) ∈ wsA := wsA_in (i := 348) (by decide +kernel) (by decide +kernel)
theorem ln_X_94 : Cond.methodLink RX 94 yX_fieldWord ∈ wsA := wsA_in (i := 349) (by decide +kernel) (by decide +kernel)
theorem im_X_fieldWord : Cond.instanceMethod yX_fieldWord ∈ wsA := wsA_in (i := 351) (by decide +kernel) (by decide +kernel)
theorem cd_X_fieldWord : Cond.code yX_fieldWord cX_fieldWord 3 (some .int) ∈ wsA := wsA_in (i := 352) (by decide +kernel) (by decide +kernel)
theorem ln_L_73 : Cond.methodLink RL 73 yL_store ∈ wsA := wsA_in (i := 353) (by decide +kernel) (by decide +kernel)
theorem sm_L_store : Cond.static yL_store ∈ wsA := wsA_in (i := 354) (by decide +kernel) (by decide +kernel)
theorem ln_L_30 : Cond.methodLink RL 30 yX_store ∈ wsA := wsA_in (i := 356) (by decide +kernel) (by decide +kernel)
theorem im_X_store : Cond.instanceMethod yX_store ∈ wsA := wsA_in (i := 357) (by decide +kernel) (by decide +kernel)
theorem se_X_store : Cond.selects RX yX_store yX_store ∈ wsA := wsA_in (i := 358) (by decide +kernel) (by decide +kernel)
theorem cd_X_store : Cond.code yX_store cX_store 6 (some .int) ∈ wsA := wsA_in (i := 359) (by decide +kernel) (by decide +kernel)
theorem ln_L_76 : Cond.methodLink RL 76 yL_type ∈ wsA := wsA_in (i := 360) (by decide +kernel) (by decide +kernel)
theorem sm_L_type : Cond.static yL_type ∈ wsA := wsA_in (i := 361) (by decide +kernel) (by decide +kernel)
theorem ln_L_33 : Cond.methodLink RL 33 yX_type ∈ wsA := wsA_in (i := 363) (by decide +kernel) (by decide +kernel)
theorem im_X_type : Cond.instanceMethod yX_type ∈ wsA := wsA_in (i := 364) (by decide +kernel) (by decide +kernel)
theorem se_X_type : Cond.selects RX yX_type yX_type ∈ wsA := wsA_in (i := 365) (by decide +kernel) (by decide +kernel)
theorem cd_X_type : Cond.code yX_type cX_type 2 (some .int) ∈ wsA := wsA_in (i := 366) (by decide +kernel) (by decide +kernel)
theorem ln_L_79 : Cond.methodLink RL 79 yL_fields ∈ wsA := wsA_in (i := 367) (by decide +kernel) (by decide +kernel)
theorem sm_L_fields : Cond.static yL_fields ∈ wsA := wsA_in (i := 368) (by decide +kernel) (by decide +kernel)
theorem ln_L_36 : Cond.methodLink RL 36 yX_fields ∈ wsA := wsA_in (i := 370) (by decide +kernel) (by decide +kernel)
theorem im_X_fields : Cond.instanceMethod yX_fields ∈ wsA := wsA_in (i := 371) (by decide +kernel) (by decide +kernel)
theorem se_X_fields : Cond.selects RX yX_fields yX_fields ∈ wsA := wsA_in (i := 372) (by decide +kernel) (by decide +kernel)
theorem cd_X_fields : Cond.code yX_fields cX_fields 2 (some .int) ∈ wsA := wsA_in (i := 373) (by decide +kernel) (by decide +kernel)
theorem ln_L_82 : Cond.methodLink RL 82 yL_become ∈ wsA := wsA_in (i := 374) (by decide +kernel) (by decide +kernel)
theorem sm_L_become : Cond.static yL_become ∈ wsA := wsA_in (i := 375) (by decide +kernel) (by decide +kernel)
theorem ln_L_39 : Cond.methodLink RL 39 yX_become ∈ wsA := wsA_in (i := 377) (by decide +kernel) (by decide +kernel)
theorem im_X_become : Cond.instanceMethod yX_become ∈ wsA := wsA_in (i := 378) (by decide +kernel) (by decide +kernel)
theorem se_X_become : Cond.selects RX yX_become yX_become ∈ wsA := wsA_in (i := 379) (by decide +kernel) (by decide +kernel)
theorem cd_X_become : Cond.code yX_become cX_become 4 none ∈ wsA := wsA_in (i := 380) (by decide +kernel) (by decide +kernel)
theorem ln_L_53 : Cond.methodLink RL 53 yM_init ∈ wsA := wsA_in (i := 383) (by decide +kernel) (by decide +kernel)
theorem im_M_init : Cond.instanceMethod yM_init ∈ wsA := wsA_in (i := 384) (by decide +kernel) (by decide +kernel)
theorem cd_M_init : Cond.code yM_init cM_init 3 none ∈ wsA := wsA_in (i := 385) (by decide +kernel) (by decide +kernel)
theorem ln_M_54 : Cond.methodLink RM 54 yM_give ∈ wsA := wsA_in (i := 387) (by decide +kernel) (by decide +kernel)
theorem im_M_give : Cond.instanceMethod yM_give ∈ wsA := wsA_in (i := 389) (by decide +kernel) (by decide +kernel)
theorem cd_M_give : Cond.code yM_give cM_give 3 none ∈ wsA := wsA_in (i := 390) (by decide +kernel) (by decide +kernel)
theorem fl_M_58 : Cond.fieldLink RM 58 "CountedObjectsModel" "thrown" "I" ∈ wsA := wsA_in (i := 391) (by decide +kernel) (by decide +kernel)
theorem fl_M_47 : Cond.fieldLink RM 47 "CountedObjectsModel" "words" "I" ∈ wsA := wsA_in (i := 392) (by decide +kernel) (by decide +kernel)
theorem fl_M_51 : Cond.fieldLink RM 51 "CountedObjectsModel" "entries" "I" ∈ wsA := wsA_in (i := 393) (by decide +kernel) (by decide +kernel)
theorem fl_M_7 : Cond.fieldLink RM 7 "CountedObjectsModel" "registers" "[I" ∈ wsA := wsA_in (i := 394) (by decide +kernel) (by decide +kernel)
theorem fl_M_13 : Cond.fieldLink RM 13 "CountedObjectsModel" "lives" "[Z" ∈ wsA := wsA_in (i := 395) (by decide +kernel) (by decide +kernel)
theorem fl_M_17 : Cond.fieldLink RM 17 "CountedObjectsModel" "addresses" "[I" ∈ wsA := wsA_in (i := 396) (by decide +kernel) (by decide +kernel)
theorem fl_M_20 : Cond.fieldLink RM 20 "CountedObjectsModel" "sizes" "[I" ∈ wsA := wsA_in (i := 397) (by decide +kernel) (by decide +kernel)
theorem fl_M_23 : Cond.fieldLink RM 23 "CountedObjectsModel" "counts" "[I" ∈ wsA := wsA_in (i := 398) (by decide +kernel) (by decide +kernel)
theorem fl_M_26 : Cond.fieldLink RM 26 "CountedObjectsModel" "word" "[I" ∈ wsA := wsA_in (i := 399) (by decide +kernel) (by decide +kernel)
theorem fl_M_68 : Cond.fieldLink RM 68 "CountedObjectsModel" "frees" "I" ∈ wsA := wsA_in (i := 400) (by decide +kernel) (by decide +kernel)
theorem fl_M_29 : Cond.fieldLink RM 29 "CountedObjectsModel" "begins" "[I" ∈ wsA := wsA_in (i := 401) (by decide +kernel) (by decide +kernel)
theorem fl_M_32 : Cond.fieldLink RM 32 "CountedObjectsModel" "lengths" "[I" ∈ wsA := wsA_in (i := 402) (by decide +kernel) (by decide +kernel)
theorem fl_M_35 : Cond.fieldLink RM 35 "CountedObjectsModel" "came" "[I" ∈ wsA := wsA_in (i := 403) (by decide +kernel) (by decide +kernel)
theorem fl_M_71 : Cond.fieldLink RM 71 "CountedObjectsModel" "clock" "I" ∈ wsA := wsA_in (i := 404) (by decide +kernel) (by decide +kernel)
theorem fl_M_85 : Cond.fieldLink RM 85 "CountedObjectsModel" "going" "I" ∈ wsA := wsA_in (i := 405) (by decide +kernel) (by decide +kernel)
theorem fl_M_38 : Cond.fieldLink RM 38 "CountedObjectsModel" "goes" "[I" ∈ wsA := wsA_in (i := 406) (by decide +kernel) (by decide +kernel)
theorem fl_M_41 : Cond.fieldLink RM 41 "CountedObjectsModel" "next" "[I" ∈ wsA := wsA_in (i := 407) (by decide +kernel) (by decide +kernel)
theorem fl_M_44 : Cond.fieldLink RM 44 "CountedObjectsModel" "reached" "[Z" ∈ wsA := wsA_in (i := 408) (by decide +kernel) (by decide +kernel)
theorem la_M_thrown : Cond.lays RM "CountedObjectsModel" "thrown" "I" ∈ wsA := wsA_in (i := 409) (by decide +kernel) (by decide +kernel)
theorem la_M_words : Cond.laysFinal RM "CountedObjectsModel" "words" "I" ∈ wsA := wsA_in (i := 411) (by decide +kernel) (by decide +kernel)
theorem la_M_entries : Cond.laysFinal RM "CountedObjectsModel" "entries" "I" ∈ wsA := wsA_in (i := 413) (by decide +kernel) (by decide +kernel)
theorem la_M_registers : Cond.laysFinal RM "CountedObjectsModel" "registers" "[I" ∈ wsA := wsA_in (i := 415) (by decide +kernel) (by decide +kernel)
theorem la_M_lives : Cond.laysFinal RM "CountedObjectsModel" "lives" "[Z" ∈ wsA := wsA_in (i := 417) (by decide +kernel) (by decide +kernel)
theorem la_M_addresses : Cond.laysFinal RM "CountedObjectsModel" "addresses" "[I" ∈ wsA := wsA_in (i := 419) (by decide +kernel) (by decide +kernel)
theorem la_M_sizes : Cond.laysFinal RM "CountedObjectsModel" "sizes" "[I" ∈ wsA := wsA_in (i := 421) (by decide +kernel) (by decide +kernel)
theorem la_M_counts : Cond.laysFinal RM "CountedObjectsModel" "counts" "[I" ∈ wsA := wsA_in (i := 423) (by decide +kernel) (by decide +kernel)
theorem la_M_word : Cond.laysFinal RM "CountedObjectsModel" "word" "[I" ∈ wsA := wsA_in (i := 425) (by decide +kernel) (by decide +kernel)
theorem la_M_frees : Cond.lays RM "CountedObjectsModel" "frees" "I" ∈ wsA := wsA_in (i := 427) (by decide +kernel) (by decide +kernel)
theorem la_M_begins : Cond.laysFinal RM "CountedObjectsModel" "begins" "[I" ∈ wsA := wsA_in (i := 429) (by decide +kernel) (by decide +kernel)
theorem la_M_lengths : Cond.laysFinal RM "CountedObjectsModel" "lengths" "[I" ∈ wsA := wsA_in (i := 431) (by decide +kernel) (by decide +kernel)
theorem la_M_came : Cond.laysFinal RM "CountedObjectsModel" "came" "[I" ∈ wsA := wsA_in (i := 433) (by decide +kernel) (by decide +kernel)
theorem la_M_clock : Cond.lays RM "CountedObjectsModel" "clock" "I" ∈ wsA := wsA_in (i := 435) (by decide +kernel) (by decide +kernel)
theorem la_M_going : Cond.lays RM "CountedObjectsModel" "going" "I" ∈ wsA := wsA_in (i := 437) (by decide +kernel) (by decide +kernel)
theorem la_M_goes : Cond.laysFinal RM "CountedObjectsModel" "goes" "[I" ∈ wsA := wsA_in (i := 439) (by decide +kernel) (by decide +kernel)
theorem la_M_next : Cond.laysFinal RM "CountedObjectsModel" "next" "[I" ∈ wsA := wsA_in (i := 441) (by decide +kernel) (by decide +kernel)
theorem la_M_reached : Cond.laysFinal RM "CountedObjectsModel" "reached" "[Z" ∈ wsA := wsA_in (i := 443) (by decide +kernel) (by decide +kernel)
theorem ln_L_58 : Cond.methodLink RL 58 yM_thrown ∈ wsA := wsA_in (i := 446) (by decide +kernel) (by decide +kernel)
theorem im_M_thrown : Cond.instanceMethod yM_thrown ∈ wsA := wsA_in (i := 447) (by decide +kernel) (by decide +kernel)
theorem se_M_thrown : Cond.selects RM yM_thrown yM_thrown ∈ wsA := wsA_in (i := 448) (by decide +kernel) (by decide +kernel)
theorem cd_M_thrown : Cond.code yM_thrown cM_thrown 1 (some .int) ∈ wsA := wsA_in (i := 449) (by decide +kernel) (by decide +kernel)
theorem ln_L_57 : Cond.methodLink RL 57 yM_instantiate ∈ wsA := wsA_in (i := 450) (by decide +kernel) (by decide +kernel)
theorem im_M_instantiate : Cond.instanceMethod yM_instantiate ∈ wsA := wsA_in (i := 451) (by decide +kernel) (by decide +kernel)
theorem se_M_instantiate : Cond.selects RM yM_instantiate yM_instantiate ∈ wsA := wsA_in (i := 452) (by decide +kernel) (by decide +kernel)
theorem cd_M_instantiate : Cond.code yM_instantiate cM_instantiate 8 (some .int) ∈ wsA := wsA_in (i := 453) (by decide +kernel) (by decide +kernel)
theorem ln_M_107 : Cond.methodLink RM 107 yM_isRegister ∈ wsA := wsA_in (i := 454) (by decide +kernel) (by decide +kernel)
theorem sm_M_isRegister : Cond.static yM_isRegister ∈ wsA := wsA_in (i := 455) (by decide +kernel) (by decide +kernel)
theorem cd_M_isRegister : Cond.code yM_isRegister cM_isRegister 1 (some .boolean) ∈ wsA := wsA_in (i := 456) (by decide +kernel) (by decide +kernel)
theorem ln_M_110 : Cond.methodLink RM 110 yM_isValue ∈ wsA := wsA_in (i := 457) (by decide +kernel) (by decide +kernel)
theorem im_M_isValue : Cond.instanceMethod yM_isValue ∈ wsA := wsA_in (i := 459) (by decide +kernel) (by decide +kernel)
theorem cd_M_isValue : Cond.code yM_isValue cM_isValue 2 (some .boolean) ∈ wsA := wsA_in (i := 460) (by decide +kernel) (by decide +kernel)
theorem ln_M_61 : Cond.methodLink RM 61 yM_leads ∈ wsA := wsA_in (i := 461) (by decide +kernel) (by decide +kernel)
theorem sm_M_leads : Cond.static yM_leads ∈ wsA := wsA_in (i := 462) (by decide +kernel) (by decide +kernel)
theorem cd_M_leads : Cond.code yM_leads cM_leads 1 (some .boolean) ∈ wsA := wsA_in (i := 463) (by decide +kernel) (by decide +kernel)
theorem ln_M_65 : Cond.methodLink RM 65 yM_isObject ∈ wsA := wsA_in (i := 464) (by decide +kernel) (by decide +kernel)
theorem im_M_isObject : Cond.instanceMethod yM_isObject ∈ wsA := wsA_in (i := 466) (by decide +kernel) (by decide +kernel)
theorem cd_M_isObject : Cond.code yM_isObject cM_isObject 2 (some .boolean) ∈ wsA := wsA_in (i := 467) (by decide +kernel) (by decide +kernel)
theorem ln_M_113 : Cond.methodLink RM 113 yM_freeEntry ∈ wsA := wsA_in (i := 468) (by decide +kernel) (by decide +kernel)
theorem im_M_freeEntry : Cond.instanceMethod yM_freeEntry ∈ wsA := wsA_in (i := 470) (by decide +kernel) (by decide +kernel)
theorem cd_M_freeEntry : Cond.code yM_freeEntry cM_freeEntry 2 (some .int) ∈ wsA := wsA_in (i := 471) (by decide +kernel) (by decide +kernel)
theorem ln_M_116 : Cond.methodLink RM 116 yM_gather ∈ wsA := wsA_in (i := 472) (by decide +kernel) (by decide +kernel)
theorem im_M_gather : Cond.instanceMethod yM_gather ∈ wsA := wsA_in (i := 474) (by decide +kernel) (by decide +kernel)
theorem cd_M_gather : Cond.code yM_gather cM_gather 6 (some .int) ∈ wsA := wsA_in (i := 475) (by decide +kernel) (by decide +kernel)
theorem ln_M_101 : Cond.methodLink RM 101 yM_reach ∈ wsA := wsA_in (i := 476) (by decide +kernel) (by decide +kernel)
theorem im_M_reach : Cond.instanceMethod yM_reach ∈ wsA := wsA_in (i := 478) (by decide +kernel) (by decide +kernel)
theorem cd_M_reach : Cond.code yM_reach cM_reach 3 (some .boolean) ∈ wsA := wsA_in (i := 479) (by decide +kernel) (by decide +kernel)
theorem ln_M_104 : Cond.methodLink RM 104 yM_spread ∈ wsA := wsA_in (i := 480) (by decide +kernel) (by decide +kernel)
theorem im_M_spread : Cond.instanceMethod yM_spread ∈ wsA := wsA_in (i := 482) (by decide +kernel) (by decide +kernel)
theorem cd_M_spread : Cond.code yM_spread cM_spread 5 (some .boolean) ∈ wsA := wsA_in (i := 483) (by decide +kernel) (by decide +kernel)
theorem ln_M_92 : Cond.methodLink RM 92 yM_takeAway ∈ wsA := wsA_in (i := 484) (by decide +kernel) (by decide +kernel)
theorem im_M_takeAway : Cond.instanceMethod yM_takeAway ∈ wsA := wsA_in (i := 486) (by decide +kernel) (by decide +kernel)
theorem cd_M_takeAway : Cond.code yM_takeAway cM_takeAway 2 none ∈ wsA := wsA_in (i := 487) (by decide +kernel) (by decide +kernel)
theorem ln_M_95 : Cond.methodLink RM 95 yM_comes ∈ wsA := wsA_in (i := 488) (by decide +kernel) (by decide +kernel)
theorem im_M_comes : Cond.instanceMethod yM_comes ∈ wsA := wsA_in (i := 490) (by decide +kernel) (by decide +kernel)
theorem cd_M_comes : Cond.code yM_comes cM_comes 2 none ∈ wsA := wsA_in (i := 491) (by decide +kernel) (by decide +kernel)
theorem ln_M_119 : Cond.methodLink RM 119 yM_place ∈ wsA := wsA_in (i := 492) (by decide +kernel) (by decide +kernel)
theorem im_M_place : Cond.instanceMethod yM_place ∈ wsA := wsA_in (i := 494) (by decide +kernel) (by decide +kernel)
theorem cd_M_place : Cond.code yM_place cM_place 5 (some .int) ∈ wsA := wsA_in (i := 495) (by decide +kernel) (by decide +kernel)
theorem ln_M_74 : Cond.methodLink RM 74 yM_fitting ∈ wsA := wsA_in (i := 496) (by decide +kernel) (by decide +kernel)
theorem im_M_fitting : Cond.instanceMethod yM_fitting ∈ wsA := wsA_in (i := 498) (by decide +kernel) (by decide +kernel)
theorem cd_M_fitting : Cond.code yM_fitting cM_fitting 5 (some .int) ∈ wsA := wsA_in (i := 499) (by decide +kernel) (by decide +kernel)
theorem ln_M_78 : Cond.methodLink RM 78 yM_freeWords ∈ wsA := wsA_in (i := 500) (by decide +kernel) (by decide +kernel)
theorem im_M_freeWords : Cond.instanceMethod yM_freeWords ∈ wsA := wsA_in (i := 502) (by decide +kernel) (by decide +kernel)
theorem cd_M_freeWords : Cond.code yM_freeWords cM_freeWords 3 (some .int) ∈ wsA := wsA_in (i := 503) (by decide +kernel) (by decide +kernel)
theorem ln_M_82 : Cond.methodLink RM 82 yM_pack ∈ wsA := wsA_in (i := 504) (by decide +kernel) (by decide +kernel)
theorem im_M_pack : Cond.instanceMethod yM_pack ∈ wsA := wsA_in (i := 506) (by decide +kernel) (by decide +kernel)
theorem cd_M_pack : Cond.code yM_pack cM_pack 8 (some .int) ∈ wsA := wsA_in (i := 507) (by decide +kernel) (by decide +kernel)
theorem ln_M_122 : Cond.methodLink RM 122 yM_replace ∈ wsA := wsA_in (i := 508) (by decide +kernel) (by decide +kernel)
theorem im_M_replace : Cond.instanceMethod yM_replace ∈ wsA := wsA_in (i := 510) (by decide +kernel) (by decide +kernel)
theorem cd_M_replace : Cond.code yM_replace cM_replace 3 (some .int) ∈ wsA := wsA_in (i := 511) (by decide +kernel) (by decide +kernel)
theorem ln_M_98 : Cond.methodLink RM 98 yM_leaves ∈ wsA := wsA_in (i := 512) (by decide +kernel) (by decide +kernel)
theorem im_M_leaves : Cond.instanceMethod yM_leaves ∈ wsA := wsA_in (i := 514) (by decide +kernel) (by decide +kernel)
theorem cd_M_leaves : Cond.code yM_leaves cM_leaves 4 none ∈ wsA := wsA_in (i := 515) (by decide +kernel) (by decide +kernel)
theorem ln_M_88 : Cond.methodLink RM 88 yM_less ∈ wsA := wsA_in (i := 516) (by decide +kernel) (by decide +kernel)
theorem im_M_less : Cond.instanceMethod yM_less ∈ wsA := wsA_in (i := 518) (by decide +kernel) (by decide +kernel)
theorem cd_M_less : Cond.code yM_less cM_less 2 none ∈ wsA := wsA_in (i := 519) (by decide +kernel) (by decide +kernel)
theorem ln_L_65 : Cond.methodLink RL 65 yM_set ∈ wsA := wsA_in (i := 520) (by decide +kernel) (by decide +kernel)
theorem im_M_set : Cond.instanceMethod yM_set ∈ wsA := wsA_in (i := 521) (by decide +kernel) (by decide +kernel)
theorem se_M_set : Cond.selects RM yM_set yM_set ∈ wsA := wsA_in (i := 522) (by decide +kernel) (by decide +kernel)
theorem cd_M_set : Cond.code yM_set cM_set 4 (some .int) ∈ wsA := wsA_in (i := 523) (by decide +kernel) (by decide +kernel)
theorem ln_L_69 : Cond.methodLink RL 69 yM_register ∈ wsA := wsA_in (i := 524) (by decide +kernel) (by decide +kernel)
theorem im_M_register : Cond.instanceMethod yM_register ∈ wsA := wsA_in (i := 525) (by decide +kernel) (by decide +kernel)
theorem se_M_register : Cond.selects RM yM_register yM_register ∈ wsA := wsA_in (i := 526) (by decide +kernel) (by decide +kernel)
theorem cd_M_register : Cond.code yM_register cM_register 2 (some .int) ∈ wsA := wsA_in (i := 527) (by decide +kernel) (by decide +kernel)
theorem ln_L_72 : Cond.methodLink RL 72 yM_fetch ∈ wsA := wsA_in (i := 528) (by decide +kernel) (by decide +kernel)
theorem im_M_fetch : Cond.instanceMethod yM_fetch ∈ wsA := wsA_in (i := 529) (by decide +kernel) (by decide +kernel)
theorem se_M_fetch : Cond.selects RM yM_fetch yM_fetch ∈ wsA := wsA_in (i := 530) (by decide +kernel) (by decide +kernel)
theorem cd_M_fetch : Cond.code yM_fetch cM_fetch 3 (some .int) ∈ wsA := wsA_in (i := 531) (by decide +kernel) (by decide +kernel)
theorem ln_M_126 : Cond.methodLink RM 126 yM_hasField ∈ wsA := wsA_in (i := 532) (by decide +kernel) (by decide +kernel)
theorem im_M_hasField : Cond.instanceMethod yM_hasField ∈ wsA := wsA_in (i := 534) (by decide +kernel) (by decide +kernel)
theorem cd_M_hasField : Cond.code yM_hasField cM_hasField 3 (some .boolean) ∈ wsA := wsA_in (i := 535) (by decide +kernel) (by decide +kernel)
theorem ln_L_75 : Cond.methodLink RL 75 yM_store ∈ wsA := wsA_in (i := 536) (by decide +kernel) (by decide +kernel)
theorem im_M_store : Cond.instanceMethod yM_store ∈ wsA := wsA_in (i := 537) (by decide +kernel) (by decide +kernel)
theorem se_M_store : Cond.selects RM yM_store yM_store ∈ wsA := wsA_in (i := 538) (by decide +kernel) (by decide +kernel)
theorem cd_M_store : Cond.code yM_store cM_store 6 (some .int) ∈ wsA := wsA_in (i := 539) (by decide +kernel) (by decide +kernel)
theorem ln_L_78 : Cond.methodLink RL 78 yM_type ∈ wsA := wsA_in (i := 540) (by decide +kernel) (by decide +kernel)
theorem im_M_type : Cond.instanceMethod yM_type ∈ wsA := wsA_in (i := 541) (by decide +kernel) (by decide +kernel)
theorem se_M_type : Cond.selects RM yM_type yM_type ∈ wsA := wsA_in (i := 542) (by decide +kernel) (by decide +kernel)
theorem cd_M_type : Cond.code yM_type cM_type 2 (some .int) ∈ wsA := wsA_in (i := 543) (by decide +kernel) (by decide +kernel)
theorem ln_L_81 : Cond.methodLink RL 81 yM_fields ∈ wsA := wsA_in (i := 544) (by decide +kernel) (by decide +kernel)
theorem im_M_fields : Cond.instanceMethod yM_fields ∈ wsA := wsA_in (i := 545) (by decide +kernel) (by decide +kernel)
theorem se_M_fields : Cond.selects RM yM_fields yM_fields ∈ wsA := wsA_in (i := 546) (by decide +kernel) (by decide +kernel)
theorem cd_M_fields : Cond.code yM_fields cM_fields 2 (some .int) ∈ wsA := wsA_in (i := 547) (by decide +kernel) (by decide +kernel)
theorem ln_L_85 : Cond.methodLink RL 85 yM_become ∈ wsA := wsA_in (i := 548) (by decide +kernel) (by decide +kernel)
theorem im_M_become : Cond.instanceMethod yM_become ∈ wsA := wsA_in (i := 549) (by decide +kernel) (by decide +kernel)
theorem se_M_become : Cond.selects RM yM_become yM_become ∈ wsA := wsA_in (i := 550) (by decide +kernel) (by decide +kernel)
theorem cd_M_become : Cond.code yM_become cM_become 5 none ∈ wsA := wsA_in (i := 551) (by decide +kernel) (by decide +kernel)
theorem ln_L_89 : Cond.methodLink RL 89 yM_collect ∈ wsA := wsA_in (i := 552) (by decide +kernel) (by decide +kernel)
theorem im_M_collect : Cond.instanceMethod yM_collect ∈ wsA := wsA_in (i := 553) (by decide +kernel) (by decide +kernel)
theorem se_M_collect : Cond.selects RM yM_collect yM_collect ∈ wsA := wsA_in (i := 554) (by decide +kernel) (by decide +kernel)
theorem cd_M_collect : Cond.code yM_collect cM_collect 1 (some .int) ∈ wsA := wsA_in (i := 555) (by decide +kernel) (by decide +kernel)
theorem ln_L_93 : Cond.methodLink RL 93 yM_compact ∈ wsA := wsA_in (i := 556) (by decide +kernel) (by decide +kernel)
theorem im_M_compact : Cond.instanceMethod yM_compact ∈ wsA := wsA_in (i := 557) (by decide +kernel) (by decide +kernel)
theorem se_M_compact : Cond.selects RM yM_compact yM_compact ∈ wsA := wsA_in (i := 558) (by decide +kernel) (by decide +kernel)
theorem cd_M_compact : Cond.code yM_compact cM_compact 1 (some .int) ∈ wsA := wsA_in (i := 559) (by decide +kernel) (by decide +kernel)
theorem ln_L_98 : Cond.methodLink RL 98 yM_exists ∈ wsA := wsA_in (i := 560) (by decide +kernel) (by decide +kernel)
theorem im_M_exists : Cond.instanceMethod yM_exists ∈ wsA := wsA_in (i := 561) (by decide +kernel) (by decide +kernel)
theorem se_M_exists : Cond.selects RM yM_exists yM_exists ∈ wsA := wsA_in (i := 562) (by decide +kernel) (by decide +kernel)
theorem cd_M_exists : Cond.code yM_exists cM_exists 2 (some .boolean) ∈ wsA := wsA_in (i := 563) (by decide +kernel) (by decide +kernel)
theorem ln_L_102 : Cond.methodLink RL 102 yM_count ∈ wsA := wsA_in (i := 564) (by decide +kernel) (by decide +kernel)
theorem im_M_count : Cond.instanceMethod yM_count ∈ wsA := wsA_in (i := 565) (by decide +kernel) (by decide +kernel)
theorem se_M_count : Cond.selects RM yM_count yM_count ∈ wsA := wsA_in (i := 566) (by decide +kernel) (by decide +kernel)
theorem cd_M_count : Cond.code yM_count cM_count 2 (some .int) ∈ wsA := wsA_in (i := 567) (by decide +kernel) (by decide +kernel)
theorem ln_L_106 : Cond.methodLink RL 106 yM_address ∈ wsA := wsA_in (i := 568) (by decide +kernel) (by decide +kernel)
theorem im_M_address : Cond.instanceMethod yM_address ∈ wsA := wsA_in (i := 569) (by decide +kernel) (by decide +kernel)
theorem se_M_address : Cond.selects RM yM_address yM_address ∈ wsA := wsA_in (i := 570) (by decide +kernel) (by decide +kernel)
theorem cd_M_address : Cond.code yM_address cM_address 2 (some .int) ∈ wsA := wsA_in (i := 571) (by decide +kernel) (by decide +kernel)
theorem ln_L_110 : Cond.methodLink RL 110 yM_chunks ∈ wsA := wsA_in (i := 572) (by decide +kernel) (by decide +kernel)
theorem im_M_chunks : Cond.instanceMethod yM_chunks ∈ wsA := wsA_in (i := 573) (by decide +kernel) (by decide +kernel)
theorem se_M_chunks : Cond.selects RM yM_chunks yM_chunks ∈ wsA := wsA_in (i := 574) (by decide +kernel) (by decide +kernel)
theorem cd_M_chunks : Cond.code yM_chunks cM_chunks 4 (some .int) ∈ wsA := wsA_in (i := 575) (by decide +kernel) (by decide +kernel)
theorem ln_L_114 : Cond.methodLink RL 114 yM_free ∈ wsA := wsA_in (i := 576) (by decide +kernel) (by decide +kernel)
theorem im_M_free : Cond.instanceMethod yM_free ∈ wsA := wsA_in (i := 577) (by decide +kernel) (by decide +kernel)
theorem se_M_free : Cond.selects RM yM_free yM_free ∈ wsA := wsA_in (i := 578) (by decide +kernel) (by decide +kernel)
theorem cd_M_free : Cond.code yM_free cM_free 1 (some .int) ∈ wsA := wsA_in (i := 579) (by decide +kernel) (by decide +kernel)
theorem ln_L_118 : Cond.methodLink RL 118 yM_objects ∈ wsA := wsA_in (i := 580) (by decide +kernel) (by decide +kernel)
theorem im_M_objects : Cond.instanceMethod yM_objects ∈ wsA := wsA_in (i := 581) (by decide +kernel) (by decide +kernel)
theorem se_M_objects : Cond.selects RM yM_objects yM_objects ∈ wsA := wsA_in (i := 582) (by decide +kernel) (by decide +kernel)
theorem cd_M_objects : Cond.code yM_objects cM_objects 3 (some .int) ∈ wsA := wsA_in (i := 583) (by decide +kernel) (by decide +kernel)
theorem ac_long : Cond.arrayClass .long ∈ wsA := wsA_in (i := 584) (by decide +kernel) (by decide +kernel)
theorem se_X_takeUnreached : Cond.selects RX yX_takeUnreached yX_takeUnreached ∈ wsA := wsA_sel (by decide +kernel) (by decide +kernel)
theorem se_X_findReached : Cond.selects RX yX_findReached yX_findReached ∈ wsA := wsA_sel (by decide +kernel) (by decide +kernel)
theorem se_X_reach : Cond.selects RX yX_reach yX_reach ∈ wsA := wsA_sel (by decide +kernel) (by decide +kernel)
theorem se_X_isObject : Cond.selects RX yX_isObject yX_isObject ∈ wsA := wsA_sel (by decide +kernel) (by decide +kernel)
theorem se_X_isUsed : Cond.selects RX yX_isUsed yX_isUsed ∈ wsA := wsA_sel (by decide +kernel) (by decide +kernel)
theorem se_X_wordsOf : Cond.selects RX yX_wordsOf yX_wordsOf ∈ wsA := wsA_sel (by decide +kernel) (by decide +kernel)
theorem se_X_freeEntry : Cond.selects RX yX_freeEntry yX_freeEntry ∈ wsA := wsA_sel (by decide +kernel) (by decide +kernel)
theorem se_X_countAnew : Cond.selects RX yX_countAnew yX_countAnew ∈ wsA := wsA_sel (by decide +kernel) (by decide +kernel)
theorem se_X_addReference : Cond.selects RX yX_addReference yX_addReference ∈ wsA := wsA_sel (by decide +kernel) (by decide +kernel)
theorem se_X_moveTogether : Cond.selects RX yX_moveTogether yX_moveTogether ∈ wsA := wsA_sel (by decide +kernel) (by decide +kernel)
theorem se_X_lowestFrom : Cond.selects RX yX_lowestFrom yX_lowestFrom ∈ wsA := wsA_sel (by decide +kernel) (by decide +kernel)
theorem se_X_isValue : Cond.selects RX yX_isValue yX_isValue ∈ wsA := wsA_sel (by decide +kernel) (by decide +kernel)
theorem se_X_findRoom : Cond.selects RX yX_findRoom yX_findRoom ∈ wsA := wsA_sel (by decide +kernel) (by decide +kernel)
theorem se_X_leastFreeEntry : Cond.selects RX yX_leastFreeEntry yX_leastFreeEntry ∈ wsA := wsA_sel (by decide +kernel) (by decide +kernel)
theorem se_X_place : Cond.selects RX yX_place yX_place ∈ wsA := wsA_sel (by decide +kernel) (by decide +kernel)
theorem se_F_bestFor : Cond.selects RF yF_bestFor yF_bestFor ∈ wsA := wsA_sel (by decide +kernel) (by decide +kernel)
theorem se_F_remove : Cond.selects RF yF_remove yF_remove ∈ wsA := wsA_sel (by decide +kernel) (by decide +kernel)
theorem se_X_makeObject : Cond.selects RX yX_makeObject yX_makeObject ∈ wsA := wsA_sel (by decide +kernel) (by decide +kernel)
theorem se_X_replaceRegister : Cond.selects RX yX_replaceRegister yX_replaceRegister ∈ wsA := wsA_sel (by decide +kernel) (by decide +kernel)
theorem se_X_dropReference : Cond.selects RX yX_dropReference yX_dropReference ∈ wsA := wsA_sel (by decide +kernel) (by decide +kernel)
theorem se_X_letGo : Cond.selects RX yX_letGo yX_letGo ∈ wsA := wsA_sel (by decide +kernel) (by decide +kernel)
theorem se_X_hasField : Cond.selects RX yX_hasField yX_hasField ∈ wsA := wsA_sel (by decide +kernel) (by decide +kernel)
theorem se_X_fieldWord : Cond.selects RX yX_fieldWord yX_fieldWord ∈ wsA := wsA_sel (by decide +kernel) (by decide +kernel)
theorem se_M_give : Cond.selects RM yM_give yM_give ∈ wsA := wsA_sel (by decide +kernel) (by decide +kernel)
theorem se_M_isValue : Cond.selects RM yM_isValue yM_isValue ∈ wsA := wsA_sel (by decide +kernel) (by decide +kernel)
theorem se_M_isObject : Cond.selects RM yM_isObject yM_isObject ∈ wsA := wsA_sel (by decide +kernel) (by decide +kernel)
theorem se_M_freeEntry : Cond.selects RM yM_freeEntry yM_freeEntry ∈ wsA := wsA_sel (by decide +kernel) (by decide +kernel)
theorem se_M_gather : Cond.selects RM yM_gather yM_gather ∈ wsA := wsA_sel (by decide +kernel) (by decide +kernel)
theorem se_M_reach : Cond.selects RM yM_reach yM_reach ∈ wsA := wsA_sel (by decide +kernel) (by decide +kernel)
theorem se_M_spread : Cond.selects RM yM_spread yM_spread ∈ wsA := wsA_sel (by decide +kernel) (by decide +kernel)
theorem se_M_takeAway : Cond.selects RM yM_takeAway yM_takeAway ∈ wsA := wsA_sel (by decide +kernel) (by decide +kernel)
theorem se_M_comes : Cond.selects RM yM_comes yM_comes ∈ wsA := wsA_sel (by decide +kernel) (by decide +kernel)
theorem se_M_place : Cond.selects RM yM_place yM_place ∈ wsA := wsA_sel (by decide +kernel) (by decide +kernel)
theorem se_M_fitting : Cond.selects RM yM_fitting yM_fitting ∈ wsA := wsA_sel (by decide +kernel) (by decide +kernel)
theorem se_M_freeWords : Cond.selects RM yM_freeWords yM_freeWords ∈ wsA := wsA_sel (by decide +kernel) (by decide +kernel)
theorem se_M_pack : Cond.selects RM yM_pack yM_pack ∈ wsA := wsA_sel (by decide +kernel) (by decide +kernel)
theorem se_M_replace : Cond.selects RM yM_replace yM_replace ∈ wsA := wsA_sel (by decide +kernel) (by decide +kernel)
theorem se_M_leaves : Cond.selects RM yM_leaves yM_leaves ∈ wsA := wsA_sel (by decide +kernel) (by decide +kernel)
theorem se_M_less : Cond.selects RM yM_less yM_less ∈ wsA := wsA_sel (by decide +kernel) (by decide +kernel)
theorem se_M_hasField : Cond.selects RM yM_hasField yM_hasField ∈ wsA := wsA_sel (by decide +kernel) (by decide +kernel)
theorem hi_X : ∀ w ∈ u_ws RX TX 8, w ∈ wsA := by
  intro w h
  obtain ⟨k, hk, rfl⟩ := List.mem_map.mp h
  have hk := List.mem_range.mp hk
  match k, hk with
  | 0, _ => exact la_X_words
  | 1, _ => exact la_X_addresses
  | 2, _ => exact la_X_counts
  | 3, _ => exact la_X_registers
  | 4, _ => exact la_X_freeChunks
  | 5, _ => exact la_X_isReached
  | 6, _ => exact la_X_reachedEntries
  | 7, _ => exact la_X_reachedHeld
theorem hi_F : ∀ w ∈ u_ws RF TF 3, w ∈ wsA := by
  intro w h
  obtain ⟨k, hk, rfl⟩ := List.mem_map.mp h
  have hk := List.mem_range.mp hk
  match k, hk with
  | 0, _ => exact la_F_starts
  | 1, _ => exact la_F_sizes
  | 2, _ => exact la_F_held
theorem hi_M : ∀ w ∈ u_ws RM TM 18, w ∈ wsA := by
  intro w h
  obtain ⟨k, hk, rfl⟩ := List.mem_map.mp h
  have hk := List.mem_range.mp hk
  match k, hk with
  | 0, _ => exact la_M_thrown
  | 1, _ => exact la_M_words
  | 2, _ => exact la_M_entries
  | 3, _ => exact la_M_registers
  | 4, _ => exact la_M_lives
  | 5, _ => exact la_M_addresses
  | 6, _ => exact la_M_sizes
  | 7, _ => exact la_M_counts
  | 8, _ => exact la_M_word
  | 9, _ => exact la_M_frees
  | 10, _ => exact la_M_begins
  | 11, _ => exact la_M_lengths
  | 12, _ => exact la_M_came
  | 13, _ => exact la_M_clock
  | 14, _ => exact la_M_going
  | 15, _ => exact la_M_goes
  | 16, _ => exact la_M_next
  | 17, _ => exact la_M_reached
  | n + 18, hk => exact absurd hk (by omega)
