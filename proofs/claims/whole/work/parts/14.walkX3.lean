/-- CountedObjects.instantiate(III)I: a step from head to head -/
def sp_X_instantiate (W E : Nat) (post : Int32 → GS → Prop) (exc : String → GS → Prop) (V : Nat → GS → List Int32 → Prop) (h : Nat) (S : GS) (xs : List Int32) : Prop := match h, xs with
  | 0, [v1, v2, v3] => wp_X_isRegister W E [v1] S (fun r2 S1 => ((¬ r2 = 0 → wp_X_isValue W E [v2] S1 (fun r4 S3 => ((r4 = 0 → exc xE2 S3) ∧ (¬ r4 = 0 → ((v3 < 0 → exc xE2 S3) ∧ (¬ v3 < 0 → ((v3 ≤ 20 → wp_X_findRoom W E [v3 + 2, v2] S3 (fun r6 S5 => wp_X_leastFreeEntry W E [] S5 (fun r8 S7 => ((r6 = (-1) → exc xE3 S7) ∧ (¬ r6 = (-1) → ((¬ r8 = 0 → wp_X_makeObject W E [r8, r6, v2, v3] S7 (fun S9 => wp_X_replaceRegister W E [v1, 2 * r8] S9 (fun r12 S11 => post (2 * r8) S11))) ∧ (r8 = 0 → exc xE3 S7))))))) ∧ (¬ v3 ≤ 20 → exc xE2 S3)))))))) ∧ (r2 = 0 → exc xE1 S1)))
  | _, _ => False
def wp_X_instantiate (W E : Nat) (xs : List Int32) (S : GS) (post : Int32 → GS → Prop) (exc : String → GS → Prop) : Prop := ∀ V : Nat → GS → List Int32 → Prop, (∀ h S xs, sp_X_instantiate W E post exc V h S xs → V h S xs) → V 0 S xs
def vh_X_instantiate (o : Nat → Nat) (G : GS → Nat → List (Nat × Value) → List Value → Prop) (h : Nat) (S : GS) (xs : List Int32) : Prop := match h, xs with
  | 0, [v1, v2, v3] => G S 0 [(0, .ref (o 0)), (1, .int v1), (2, .int v2), (3, .int v3)] []
  | _, _ => True
set_option maxHeartbeats 4000000 in
set_option maxRecDepth 100000 in
theorem wk_X_instantiate_0 {l : Launch} {dC : Nat → ClassId} {dI : Nat → Nat → Nat} {cI cZ : ClassId} {o : Nat → Nat} {W E : Nat} {p : Program} {e : Env} {s : State} {m : MethodId} {args : Array Value} {below : List Frame} {meth : Method} {c : Code} {A : Nat → Prop} {post : Int32 → GS → Prop} {exc : String → GS → Prop} (hZ : ZX A s) (hl : l.stackTraces = false) (hout : ∀ x ∈ c.exceptionTable.toList, False) (C : GC p s m args c cX_instantiate 6 RX wsA (dC, dI) gx_cl [(cI, .int), (cZ, .boolean)] A) (hr : meth.sig.returnType = (some .int)) (hlocks : meth.locks = false) (S : GS) (v1 : Int32) (v2 : Int32) (v3 : Int32) (hs : sp_X_instantiate W E post exc (vh_X_instantiate o (GV p l e ({ frames := 96, cells := 1, slots := 6, locals := 2405 }) s m args below meth c (vx_MQ below (va_Qi post (GB (xw cI cZ o W E) (dC, dI) gx_cl [(cI, .int), (cZ, .boolean)] A) A) (GX (xw cI cZ o W E) (dC, dI) gx_cl [(cI, .int), (cZ, .boolean)] A exc) args s 1 6 A) 6 (dC, dI) gx_cl A (xw cI cZ o W E))) 0 S [v1, v2, v3]) : GV p l e ({ frames := 96, cells := 1, slots := 6, locals := 2405 }) s m args below meth c (vx_MQ below (va_Qi post (GB (xw cI cZ o W E) (dC, dI) gx_cl [(cI, .int), (cZ, .boolean)] A) A) (GX (xw cI cZ o W E) (dC, dI) gx_cl [(cI, .int), (cZ, .boolean)] A exc) args s 1 6 A) 6 (dC, dI) gx_cl A (xw cI cZ o W E) S 0 [(0, .ref (o 0)), (1, .int v1), (2, .int v2), (3, .int v3)] [] := by
  refine gx_iload_n C dX_instantiate_0 1 rfl rfl ?_
  refine gx_calls (As := [.int v1]) (rest := []) C (mt_X_isRegister l dC dI cI cZ o W E _ _ _ hs) (gx_cwS C 1 ln_X_57 sm_X_isRegister in_CountedObjects cd_X_isRegister rfl rfl (by decide +kernel) ⟨Nat.le_of_ble_eq_true rfl, Nat.le_of_ble_eq_true rfl⟩) rfl (Nat.le_of_ble_eq_true rfl) dX_instantiate_1 (fun S1 => xw_ad _ S1) rfl (fun r2 S1 hs => ?_)
  obtain ⟨ht, hf⟩ := hs
  refine gx_if_ne C dX_instantiate_4 15 rfl (fun hc => ?_) (fun hc => ?_)
  · have hs := ht hc
    refine gx_aload_n C dX_instantiate_15 0 rfl rfl ?_
    refine gx_iload_n C dX_instantiate_16 2 rfl rfl ?_
    refine gx_calli (As := [.int v2]) (rest := []) C (mt_X_isValue l dC dI cI cZ o W E _ _ _ hs) (gx_cwV C 1 ln_X_64 im_X_isValue se_X_isValue in_CountedObjects cd_X_isValue rfl rfl (by decide +kernel) ⟨Nat.le_of_ble_eq_true rfl, Nat.le_of_ble_eq_true rfl⟩) xo_this rfl (Nat.le_of_ble_eq_true rfl) dX_instantiate_17 (fun S1 => xw_ad _ S1) rfl (fun r4 S3 hs => ?_)
    obtain ⟨ht, hf⟩ := hs
    refine gx_if_eq C dX_instantiate_20 33 rfl (fun hc => ?_) (fun hc => ?_)
    · have hs := ht hc
      exact gx_throw2 C hZ hl hout hlocks (Nat.le_of_ble_eq_true rfl) (Nat.le_of_ble_eq_true rfl) (Nat.le_of_ble_eq_true rfl) (Nat.le_of_ble_eq_true rfl) dX_instantiate_33 dX_instantiate_36 dX_instantiate_37 dX_instantiate_40 hs
    · have hs := hf hc
      refine gx_iload_n C dX_instantiate_23 3 rfl rfl ?_
      obtain ⟨ht, hf⟩ := hs
      refine gx_if_lt C dX_instantiate_24 33 rfl (fun hc => ?_) (fun hc => ?_)
      · have hs := ht hc
        exact gx_throw2 C hZ hl hout hlocks (Nat.le_of_ble_eq_true rfl) (Nat.le_of_ble_eq_true rfl) (Nat.le_of_ble_eq_true rfl) (Nat.le_of_ble_eq_true rfl) dX_instantiate_33 dX_instantiate_36 dX_instantiate_37 dX_instantiate_40 hs
      · have hs := hf hc
        refine gx_iload_n C dX_instantiate_27 3 rfl rfl ?_
        refine gx_bipush (v := 20) C dX_instantiate_28 (by decide) ?_
        obtain ⟨ht, hf⟩ := hs
        refine gx_icmp_le C dX_instantiate_30 41 rfl (fun hc => ?_) (fun hc => ?_)
        · have hs := ht hc
          refine gx_aload_n C dX_instantiate_41 0 rfl rfl ?_
          refine gx_iload_n C dX_instantiate_42 3 rfl rfl ?_
          refine gx_iconst (v := 2) C dX_instantiate_43 (by decide) ?_
          refine gx_iadd C dX_instantiate_44 ?_
          refine gx_iload_n C dX_instantiate_45 2 rfl rfl ?_
          refine gx_calli (As := [.int (v3 + 2), .int v2]) (rest := []) C (mt_X_findRoom l dC dI cI cZ o W E _ _ _ _ hs) (gx_cwV C 2 ln_X_70 im_X_findRoom se_X_findRoom in_CountedObjects cd_X_findRoom rfl rfl (by decide +kernel) ⟨Nat.le_of_ble_eq_true rfl, Nat.le_of_ble_eq_true rfl⟩) xo_this rfl (Nat.le_of_ble_eq_true rfl) dX_instantiate_46 (fun S1 => xw_ad _ S1) rfl (fun r6 S5 hs => ?_)
          refine gx_istore (L' := [(4, .int r6), (0, .ref (o 0)), (1, .int v1), (2, .int v2), (3, .int v3)]) C dX_instantiate_49 (by decide) rfl ?_
          refine gx_aload_n C dX_instantiate_51 1 rfl rfl ?_
          refine gx_calli (As := []) (rest := []) C (mt_X_leastFreeEntry l dC dI cI cZ o W E _ _ hs) (gx_cwV C 0 ln_X_73 im_X_leastFreeEntry se_X_leastFreeEntry in_CountedObjects cd_X_leastFreeEntry rfl rfl (by decide +kernel) ⟨Nat.le_of_ble_eq_true rfl, Nat.le_of_ble_eq_true rfl⟩) xo_this rfl (Nat.le_of_ble_eq_true rfl) dX_instantiate_52 (fun S1 => xw_ad _ S1) rfl (fun r8 S7 hs => ?_)
          refine gx_istore (L' := [(5, .int r8), (4, .int r6), (0, .ref (o 0)), (1, .int v1), (2, .int v2), (3, .int v3)]) C dX_instantiate_55 (by decide) rfl ?_
          refine gx_iload C dX_instantiate_57 1 rfl ?_
          refine gx_iconst (v := (-1)) C dX_instantiate_59 (by decide) ?_
          obtain ⟨ht, hf⟩ := hs
          refine gx_icmp_eq C dX_instantiate_60 68 rfl (fun hc => ?_) (fun hc => ?_)
          · have hs := ht hc
            exact gx_throw3 C hZ hl hout hlocks (Nat.le_of_ble_eq_true rfl) (Nat.le_of_ble_eq_true rfl) (Nat.le_of_ble_eq_true rfl) (Nat.le_of_ble_eq_true rfl) dX_instantiate_68 dX_instantiate_71 dX_instantiate_72 dX_instantiate_75 hs
          · have hs := hf hc
            refine gx_iload C dX_instantiate_63 0 rfl ?_
            obtain ⟨ht, hf⟩ := hs
            refine gx_if_ne C dX_instantiate_65 76 rfl (fun hc => ?_) (fun hc => ?_)
            · have hs := ht hc
              refine gx_aload_n C dX_instantiate_76 2 rfl rfl ?_
              refine gx_iload C dX_instantiate_77 0 rfl ?_
              refine gx_iload C dX_instantiate_79 1 rfl ?_
              refine gx_iload_n C dX_instantiate_81 4 rfl rfl ?_
              refine gx_iload_n C dX_instantiate_82 5 rfl rfl ?_
              refine gx_callv (As := [.int r8, .int r6, .int v2, .int v3]) (rest := []) C (mt_X_makeObject l dC dI cI cZ o W E _ _ _ _ _ _ hs) (gx_cwV C 4 ln_X_80 im_X_makeObject se_X_makeObject in_CountedObjects cd_X_makeObject rfl rfl (by decide +kernel) ⟨Nat.le_of_ble_eq_true rfl, Nat.le_of_ble_eq_true rfl⟩) xo_this rfl (Nat.le_of_ble_eq_true rfl) dX_instantiate_83 (fun S1 => xw_ad _ S1) rfl (fun S9 hs => ?_)
              refine gx_aload_n C dX_instantiate_86 2 rfl rfl ?_
              refine gx_iload_n C dX_instantiate_87 3 rfl rfl ?_
              refine gx_iconst (v := 2) C dX_instantiate_88 (by decide) ?_
              refine gx_iload C dX_instantiate_89 0 rfl ?_
              refine gx_imul C dX_instantiate_91 ?_
              refine gx_calli (As := [.int v1, .int (2 * r8)]) (rest := []) C (mt_X_replaceRegister l dC dI cI cZ o W E _ _ _ _ hs) (gx_cwV C 2 ln_X_84 im_X_replaceRegister se_X_replaceRegister in_CountedObjects cd_X_replaceRegister rfl rfl (by decide +kernel) ⟨Nat.le_of_ble_eq_true rfl, Nat.le_of_ble_eq_true rfl⟩) xo_this rfl (Nat.le_of_ble_eq_true rfl) dX_instantiate_92 (fun S1 => xw_ad _ S1) rfl (fun r12 S11 hs => ?_)
              refine gx_pop C dX_instantiate_95 rfl ?_
              refine gx_iconst (v := 2) C dX_instantiate_96 (by decide) ?_
              refine gx_iload C dX_instantiate_97 0 rfl ?_
              refine gx_imul C dX_instantiate_99 ?_
              exact gx_iretX C hr hlocks dX_instantiate_100 hs
            · have hs := hf hc
              exact gx_throw3 C hZ hl hout hlocks (Nat.le_of_ble_eq_true rfl) (Nat.le_of_ble_eq_true rfl) (Nat.le_of_ble_eq_true rfl) (Nat.le_of_ble_eq_true rfl) dX_instantiate_68 dX_instantiate_71 dX_instantiate_72 dX_instantiate_75 hs
        · have hs := hf hc
          exact gx_throw2 C hZ hl hout hlocks (Nat.le_of_ble_eq_true rfl) (Nat.le_of_ble_eq_true rfl) (Nat.le_of_ble_eq_true rfl) (Nat.le_of_ble_eq_true rfl) dX_instantiate_33 dX_instantiate_36 dX_instantiate_37 dX_instantiate_40 hs
  · have hs := hf hc
    exact gx_throw1 C hZ hl hout hlocks (Nat.le_of_ble_eq_true rfl) (Nat.le_of_ble_eq_true rfl) (Nat.le_of_ble_eq_true rfl) (Nat.le_of_ble_eq_true rfl) dX_instantiate_7 dX_instantiate_10 dX_instantiate_11 dX_instantiate_14 hs
set_option maxHeartbeats 4000000 in
set_option maxRecDepth 100000 in
theorem mt_X_instantiate (l : Launch) (hl : l.stackTraces = false) (dC : Nat → ClassId) (dI : Nat → Nat → Nat) (cI cZ : ClassId) (o : Nat → Nat) (W E : Nat) (v1 : Int32) (v2 : Int32) (v3 : Int32) (S : GS) (post : Int32 → GS → Prop) (exc : String → GS → Prop) (h : wp_X_instantiate W E [v1, v2, v3] S post exc) : XMetI l yX_instantiate (Cond.code yX_instantiate cX_instantiate 6 (some .int) :: wsA) ({ frames := 96, cells := 1, slots := 6, locals := 2405 }) (dC, dI) gx_cl [(cI, .int), (cZ, .boolean)] (xw cI cZ o W E) [.ref (o 0), .int v1, .int v2, .int v3] S post exc := by
  refine gx_metXI (by decide) wsA_good (Nat.le_of_ble_eq_true rfl) ?_
  intro p e s m args below meth c A C hr hlocks hZ hout
  refine h (vh_X_instantiate o (GV p l e ({ frames := 96, cells := 1, slots := 6, locals := 2405 }) s m args below meth c (vx_MQ below (va_Qi post (GB (xw cI cZ o W E) (dC, dI) gx_cl [(cI, .int), (cZ, .boolean)] A) A) (GX (xw cI cZ o W E) (dC, dI) gx_cl [(cI, .int), (cZ, .boolean)] A exc) args s 1 6 A) 6 (dC, dI) gx_cl A (xw cI cZ o W E))) (fun h S xs hs => ?_)
  unfold sp_X_instantiate at hs
  split at hs
  · exact wk_X_instantiate_0 hZ hl hout C hr hlocks _ _ _ _ hs
  · exact hs.elim
/-- CountedObjects.set(II)I: a step from head to head -/
def sp_X_set (W E : Nat) (post : Int32 → GS → Prop) (exc : String → GS → Prop) (V : Nat → GS → List Int32 → Prop) (h : Nat) (S : GS) (xs : List Int32) : Prop := match h, xs with
  | 0, [v1, v2] => wp_X_isRegister W E [v1] S (fun r2 S1 => ((¬ r2 = 0 → wp_X_isValue W E [v2] S1 (fun r4 S3 => ((¬ r4 = 0 → wp_X_replaceRegister W E [v1, v2] S3 (fun r6 S5 => post r6 S5)) ∧ (r4 = 0 → exc xE2 S3)))) ∧ (r2 = 0 → exc xE1 S1)))
  | _, _ => False
def wp_X_set (W E : Nat) (xs : List Int32) (S : GS) (post : Int32 → GS → Prop) (exc : String → GS → Prop) : Prop := ∀ V : Nat → GS → List Int32 → Prop, (∀ h S xs, sp_X_set W E post exc V h S xs → V h S xs) → V 0 S xs
def vh_X_set (o : Nat → Nat) (G : GS → Nat → List (Nat × Value) → List Value → Prop) (h : Nat) (S : GS) (xs : List Int32) : Prop := match h, xs with
  | 0, [v1, v2] => G S 0 [(0, .ref (o 0)), (1, .int v1), (2, .int v2)] []
  | _, _ => True
set_option maxHeartbeats 4000000 in
set_option maxRecDepth 100000 in
theorem wk_X_set_0 {l : Launch} {dC : Nat → ClassId} {dI : Nat → Nat → Nat} {cI cZ : ClassId} {o : Nat → Nat} {W E : Nat} {p : Program} {e : Env} {s : State} {m : MethodId} {args : Array Value} {below : List Frame} {meth : Method} {c : Code} {A : Nat → Prop} {post : Int32 → GS → Prop} {exc : String → GS → Prop} (hZ : ZX A s) (hl : l.stackTraces = false) (hout : ∀ x ∈ c.exceptionTable.toList, False) (C : GC p s m args c cX_set 3 RX wsA (dC, dI) gx_cl [(cI, .int), (cZ, .boolean)] A) (hr : meth.sig.returnType = (some .int)) (hlocks : meth.locks = false) (S : GS) (v1 : Int32) (v2 : Int32) (hs : sp_X_set W E post exc (vh_X_set o (GV p l e ({ frames := 96, cells := 1, slots := 6, locals := 2405 }) s m args below meth c (vx_MQ below (va_Qi post (GB (xw cI cZ o W E) (dC, dI) gx_cl [(cI, .int), (cZ, .boolean)] A) A) (GX (xw cI cZ o W E) (dC, dI) gx_cl [(cI, .int), (cZ, .boolean)] A exc) args s 1 6 A) 3 (dC, dI) gx_cl A (xw cI cZ o W E))) 0 S [v1, v2]) : GV p l e ({ frames := 96, cells := 1, slots := 6, locals := 2405 }) s m args below meth c (vx_MQ below (va_Qi post (GB (xw cI cZ o W E) (dC, dI) gx_cl [(cI, .int), (cZ, .boolean)] A) A) (GX (xw cI cZ o W E) (dC, dI) gx_cl [(cI, .int), (cZ, .boolean)] A exc) args s 1 6 A) 3 (dC, dI) gx_cl A (xw cI cZ o W E) S 0 [(0, .ref (o 0)), (1, .int v1), (2, .int v2)] [] := by
  refine gx_iload_n C dX_set_0 1 rfl rfl ?_
  refine gx_calls (As := [.int v1]) (rest := []) C (mt_X_isRegister l dC dI cI cZ o W E _ _ _ hs) (gx_cwS C 1 ln_X_57 sm_X_isRegister in_CountedObjects cd_X_isRegister rfl rfl (by decide +kernel) ⟨Nat.le_of_ble_eq_true rfl, Nat.le_of_ble_eq_true rfl⟩) rfl (Nat.le_of_ble_eq_true rfl) dX_set_1 (fun S1 => xw_ad _ S1) rfl (fun r2 S1 hs => ?_)
  obtain ⟨ht, hf⟩ := hs
  refine gx_if_ne C dX_set_4 15 rfl (fun hc => ?_) (fun hc => ?_)
  · have hs := ht hc
    refine gx_aload_n C dX_set_15 0 rfl rfl ?_
    refine gx_iload_n C dX_set_16 2 rfl rfl ?_
    refine gx_calli (As := [.int v2]) (rest := []) C (mt_X_isValue l dC dI cI cZ o W E _ _ _ hs) (gx_cwV C 1 ln_X_64 im_X_isValue se_X_isValue in_CountedObjects cd_X_isValue rfl rfl (by decide +kernel) ⟨Nat.le_of_ble_eq_true rfl, Nat.le_of_ble_eq_true rfl⟩) xo_this rfl (Nat.le_of_ble_eq_true rfl) dX_set_17 (fun S1 => xw_ad _ S1) rfl (fun r4 S3 hs => ?_)
    obtain ⟨ht, hf⟩ := hs
    refine gx_if_ne C dX_set_20 31 rfl (fun hc => ?_) (fun hc => ?_)
    · have hs := ht hc
      refine gx_aload_n C dX_set_31 0 rfl rfl ?_
      refine gx_iload_n C dX_set_32 1 rfl rfl ?_
      refine gx_iload_n C dX_set_33 2 rfl rfl ?_
      refine gx_calli (As := [.int v1, .int v2]) (rest := []) C (mt_X_replaceRegister l dC dI cI cZ o W E _ _ _ _ hs) (gx_cwV C 2 ln_X_84 im_X_replaceRegister se_X_replaceRegister in_CountedObjects cd_X_replaceRegister rfl rfl (by decide +kernel) ⟨Nat.le_of_ble_eq_true rfl, Nat.le_of_ble_eq_true rfl⟩) xo_this rfl (Nat.le_of_ble_eq_true rfl) dX_set_34 (fun S1 => xw_ad _ S1) rfl (fun r6 S5 hs => ?_)
      exact gx_iretX C hr hlocks dX_set_37 hs
    · have hs := hf hc
      exact gx_throw2 C hZ hl hout hlocks (Nat.le_of_ble_eq_true rfl) (Nat.le_of_ble_eq_true rfl) (Nat.le_of_ble_eq_true rfl) (Nat.le_of_ble_eq_true rfl) dX_set_23 dX_set_26 dX_set_27 dX_set_30 hs
  · have hs := hf hc
    exact gx_throw1 C hZ hl hout hlocks (Nat.le_of_ble_eq_true rfl) (Nat.le_of_ble_eq_true rfl) (Nat.le_of_ble_eq_true rfl) (Nat.le_of_ble_eq_true rfl) dX_set_7 dX_set_10 dX_set_11 dX_set_14 hs
set_option maxHeartbeats 4000000 in
set_option maxRecDepth 100000 in
theorem mt_X_set (l : Launch) (hl : l.stackTraces = false) (dC : Nat → ClassId) (dI : Nat → Nat → Nat) (cI cZ : ClassId) (o : Nat → Nat) (W E : Nat) (v1 : Int32) (v2 : Int32) (S : GS) (post : Int32 → GS → Prop) (exc : String → GS → Prop) (h : wp_X_set W E [v1, v2] S post exc) : XMetI l yX_set (Cond.code yX_set cX_set 3 (some .int) :: wsA) ({ frames := 96, cells := 1, slots := 6, locals := 2405 }) (dC, dI) gx_cl [(cI, .int), (cZ, .boolean)] (xw cI cZ o W E) [.ref (o 0), .int v1, .int v2] S post exc := by
  refine gx_metXI (by decide) wsA_good (Nat.le_of_ble_eq_true rfl) ?_
  intro p e s m args below meth c A C hr hlocks hZ hout
  refine h (vh_X_set o (GV p l e ({ frames := 96, cells := 1, slots := 6, locals := 2405 }) s m args below meth c (vx_MQ below (va_Qi post (GB (xw cI cZ o W E) (dC, dI) gx_cl [(cI, .int), (cZ, .boolean)] A) A) (GX (xw cI cZ o W E) (dC, dI) gx_cl [(cI, .int), (cZ, .boolean)] A exc) args s 1 6 A) 3 (dC, dI) gx_cl A (xw cI cZ o W E))) (fun h S xs hs => ?_)
  unfold sp_X_set at hs
  split at hs
  · exact wk_X_set_0 hZ hl hout C hr hlocks _ _ _ hs
  · exact hs.elim
/-- CountedObjects.register(I)I: a step from head to head -/
def sp_X_register (W E : Nat) (post : Int32 → GS → Prop) (exc : String → GS → Prop) (V : Nat → GS → List Int32 → Prop) (h : Nat) (S : GS) (xs : List Int32) : Prop := match h, xs with
  | 0, [v1] => wp_X_isRegister W E [v1] S (fun r2 S1 => ((¬ r2 = 0 → (vp_in v1 8 ∧ post (S1 3 (v1).toNatClampNeg) S1)) ∧ (r2 = 0 → exc xE1 S1)))
  | _, _ => False
def wp_X_register (W E : Nat) (xs : List Int32) (S : GS) (post : Int32 → GS → Prop) (exc : String → GS → Prop) : Prop := ∀ V : Nat → GS → List Int32 → Prop, (∀ h S xs, sp_X_register W E post exc V h S xs → V h S xs) → V 0 S xs
def vh_X_register (o : Nat → Nat) (G : GS → Nat → List (Nat × Value) → List Value → Prop) (h : Nat) (S : GS) (xs : List Int32) : Prop := match h, xs with
  | 0, [v1] => G S 0 [(0, .ref (o 0)), (1, .int v1)] []
  | _, _ => True
set_option maxHeartbeats 4000000 in
set_option maxRecDepth 100000 in
theorem wk_X_register_0 {l : Launch} {dC : Nat → ClassId} {dI : Nat → Nat → Nat} {cI cZ : ClassId} {o : Nat → Nat} {W E : Nat} {p : Program} {e : Env} {s : State} {m : MethodId} {args : Array Value} {below : List Frame} {meth : Method} {c : Code} {A : Nat → Prop} {post : Int32 → GS → Prop} {exc : String → GS → Prop} (hZ : ZX A s) (hl : l.stackTraces = false) (hout : ∀ x ∈ c.exceptionTable.toList, False) (C : GC p s m args c cX_register 2 RX wsA (dC, dI) gx_cl [(cI, .int), (cZ, .boolean)] A) (hr : meth.sig.returnType = (some .int)) (hlocks : meth.locks = false) (S : GS) (v1 : Int32) (hs : sp_X_register W E post exc (vh_X_register o (GV p l e ({ frames := 6, cells := 1, slots := 6, locals := 100 }) s m args below meth c (vx_MQ below (va_Qi post (GB (xw cI cZ o W E) (dC, dI) gx_cl [(cI, .int), (cZ, .boolean)] A) A) (GX (xw cI cZ o W E) (dC, dI) gx_cl [(cI, .int), (cZ, .boolean)] A exc) args s 1 6 A) 2 (dC, dI) gx_cl A (xw cI cZ o W E))) 0 S [v1]) : GV p l e ({ frames := 6, cells := 1, slots := 6, locals := 100 }) s m args below meth c (vx_MQ below (va_Qi post (GB (xw cI cZ o W E) (dC, dI) gx_cl [(cI, .int), (cZ, .boolean)] A) A) (GX (xw cI cZ o W E) (dC, dI) gx_cl [(cI, .int), (cZ, .boolean)] A exc) args s 1 6 A) 2 (dC, dI) gx_cl A (xw cI cZ o W E) S 0 [(0, .ref (o 0)), (1, .int v1)] [] := by
  refine gx_iload_n C dX_register_0 1 rfl rfl ?_
  refine gx_calls (As := [.int v1]) (rest := []) C (mt_X_isRegister l dC dI cI cZ o W E _ _ _ hs) (gx_cwS C 1 ln_X_57 sm_X_isRegister in_CountedObjects cd_X_isRegister rfl rfl (by decide +kernel) ⟨Nat.le_of_ble_eq_true rfl, Nat.le_of_ble_eq_true rfl⟩) rfl (Nat.le_of_ble_eq_true rfl) dX_register_1 (fun S1 => xw_ad _ S1) rfl (fun r2 S1 hs => ?_)
  obtain ⟨ht, hf⟩ := hs
  refine gx_if_ne C dX_register_4 15 rfl (fun hc => ?_) (fun hc => ?_)
  · have hs := ht hc
    refine gx_aload_n C dX_register_15 0 rfl rfl ?_
    refine gx_get C xo_this hi_X 3 (by decide) fl_X_28 rfl dX_register_16 ?_
    refine gx_iload_n C dX_register_19 1 rfl rfl ?_
    obtain ⟨hin, hs⟩ := hs
    refine gx_iald C xa_registers hin dX_register_20 ?_
    exact gx_iretX C hr hlocks dX_register_21 hs
  · have hs := hf hc
    exact gx_throw1 C hZ hl hout hlocks (Nat.le_of_ble_eq_true rfl) (Nat.le_of_ble_eq_true rfl) (Nat.le_of_ble_eq_true rfl) (Nat.le_of_ble_eq_true rfl) dX_register_7 dX_register_10 dX_register_11 dX_register_14 hs
set_option maxHeartbeats 4000000 in
set_option maxRecDepth 100000 in
theorem mt_X_register (l : Launch) (hl : l.stackTraces = false) (dC : Nat → ClassId) (dI : Nat → Nat → Nat) (cI cZ : ClassId) (o : Nat → Nat) (W E : Nat) (v1 : Int32) (S : GS) (post : Int32 → GS → Prop) (exc : String → GS → Prop) (h : wp_X_register W E [v1] S post exc) : XMetI l yX_register (Cond.code yX_register cX_register 2 (some .int) :: wsA) ({ frames := 6, cells := 1, slots := 6, locals := 100 }) (dC, dI) gx_cl [(cI, .int), (cZ, .boolean)] (xw cI cZ o W E) [.ref (o 0), .int v1] S post exc := by
  refine gx_metXI (by decide) wsA_good (Nat.le_of_ble_eq_true rfl) ?_
  intro p e s m args below meth c A C hr hlocks hZ hout
  refine h (vh_X_register o (GV p l e ({ frames := 6, cells := 1, slots := 6, locals := 100 }) s m args below meth c (vx_MQ below (va_Qi post (GB (xw cI cZ o W E) (dC, dI) gx_cl [(cI, .int), (cZ, .boolean)] A) A) (GX (xw cI cZ o W E) (dC, dI) gx_cl [(cI, .int), (cZ, .boolean)] A exc) args s 1 6 A) 2 (dC, dI) gx_cl A (xw cI cZ o W E))) (fun h S xs hs => ?_)
  unfold sp_X_register at hs
  split at hs
  · exact wk_X_register_0 hZ hl hout C hr hlocks _ _ hs
  · exact hs.elim
/-- CountedObjects.fetch(II)I: a step from head to head -/
def sp_X_fetch (W E : Nat) (post : Int32 → GS → Prop) (exc : String → GS → Prop) (V : Nat → GS → List Int32 → Prop) (h : Nat) (S : GS) (xs : List Int32) : Prop := match h, xs with
  | 0, [v1, v2] => wp_X_isObject W E [v1] S (fun r2 S1 => ((¬ r2 = 0 → wp_X_hasField W E [v1, v2] S1 (fun r4 S3 => ((¬ r4 = 0 → wp_X_fieldWord W E [v1, v2] S3 (fun r6 S5 => (vp_in r6 W ∧ post (S5 0 (r6).toNatClampNeg) S5))) ∧ (r4 = 0 → exc xE1 S3)))) ∧ (r2 = 0 → exc xE2 S1)))
  | _, _ => False
def wp_X_fetch (W E : Nat) (xs : List Int32) (S : GS) (post : Int32 → GS → Prop) (exc : String → GS → Prop) : Prop := ∀ V : Nat → GS → List Int32 → Prop, (∀ h S xs, sp_X_fetch W E post exc V h S xs → V h S xs) → V 0 S xs
def vh_X_fetch (o : Nat → Nat) (G : GS → Nat → List (Nat × Value) → List Value → Prop) (h : Nat) (S : GS) (xs : List Int32) : Prop := match h, xs with
  | 0, [v1, v2] => G S 0 [(0, .ref (o 0)), (1, .int v1), (2, .int v2)] []
  | _, _ => True
set_option maxHeartbeats 4000000 in
set_option maxRecDepth 100000 in
theorem wk_X_fetch_0 {l : Launch} {dC : Nat → ClassId} {dI : Nat → Nat → Nat} {cI cZ : ClassId} {o : Nat → Nat} {W E : Nat} {p : Program} {e : Env} {s : State} {m : MethodId} {args : Array Value} {below : List Frame} {meth : Method} {c : Code} {A : Nat → Prop} {post : Int32 → GS → Prop} {exc : String → GS → Prop} (hZ : ZX A s) (hl : l.stackTraces = false) (hout : ∀ x ∈ c.exceptionTable.toList, False) (C : GC p s m args c cX_fetch 3 RX wsA (dC, dI) gx_cl [(cI, .int), (cZ, .boolean)] A) (hr : meth.sig.returnType = (some .int)) (hlocks : meth.locks = false) (S : GS) (v1 : Int32) (v2 : Int32) (hs : sp_X_fetch W E post exc (vh_X_fetch o (GV p l e ({ frames := 6, cells := 1, slots := 6, locals := 100 }) s m args below meth c (vx_MQ below (va_Qi post (GB (xw cI cZ o W E) (dC, dI) gx_cl [(cI, .int), (cZ, .boolean)] A) A) (GX (xw cI cZ o W E) (dC, dI) gx_cl [(cI, .int), (cZ, .boolean)] A exc) args s 1 6 A) 3 (dC, dI) gx_cl A (xw cI cZ o W E))) 0 S [v1, v2]) : GV p l e ({ frames := 6, cells := 1, slots := 6, locals := 100 }) s m args below meth c (vx_MQ below (va_Qi post (GB (xw cI cZ o W E) (dC, dI) gx_cl [(cI, .int), (cZ, .boolean)] A) A) (GX (xw cI cZ o W E) (dC, dI) gx_cl [(cI, .int), (cZ, .boolean)] A exc) args s 1 6 A) 3 (dC, dI) gx_cl A (xw cI cZ o W E) S 0 [(0, .ref (o 0)), (1, .int v1), (2, .int v2)] [] := by
  refine gx_aload_n C dX_fetch_0 0 rfl rfl ?_
  refine gx_iload_n C dX_fetch_1 1 rfl rfl ?_
  refine gx_calli (As := [.int v1]) (rest := []) C (mt_X_isObject l dC dI cI cZ o W E _ _ _ hs) (gx_cwV C 1 ln_X_87 im_X_isObject se_X_isObject in_CountedObjects cd_X_isObject rfl rfl (by decide +kernel) ⟨Nat.le_of_ble_eq_true rfl, Nat.le_of_ble_eq_true rfl⟩) xo_this rfl (Nat.le_of_ble_eq_true rfl) dX_fetch_2 (fun S1 => xw_ad _ S1) rfl (fun r2 S1 hs => ?_)
  obtain ⟨ht, hf⟩ := hs
  refine gx_if_ne C dX_fetch_5 16 rfl (fun hc => ?_) (fun hc => ?_)
  · have hs := ht hc
    refine gx_aload_n C dX_fetch_16 0 rfl rfl ?_
    refine gx_iload_n C dX_fetch_17 1 rfl rfl ?_
    refine gx_iload_n C dX_fetch_18 2 rfl rfl ?_
    refine gx_calli (As := [.int v1, .int v2]) (rest := []) C (mt_X_hasField l dC dI cI cZ o W E _ _ _ _ hs) (gx_cwV C 2 ln_X_90 im_X_hasField se_X_hasField in_CountedObjects cd_X_hasField rfl rfl (by decide +kernel) ⟨Nat.le_of_ble_eq_true rfl, Nat.le_of_ble_eq_true rfl⟩) xo_this rfl (Nat.le_of_ble_eq_true rfl) dX_fetch_19 (fun S1 => xw_ad _ S1) rfl (fun r4 S3 hs => ?_)
    obtain ⟨ht, hf⟩ := hs
    refine gx_if_ne C dX_fetch_22 33 rfl (fun hc => ?_) (fun hc => ?_)
    · have hs := ht hc
      refine gx_aload_n C dX_fetch_33 0 rfl rfl ?_
      refine gx_get C xo_this hi_X 0 (by decide) fl_X_18 rfl dX_fetch_34 ?_
      refine gx_aload_n C dX_fetch_37 0 rfl rfl ?_
      refine gx_iload_n C dX_fetch_38 1 rfl rfl ?_
      refine gx_iload_n C dX_fetch_39 2 rfl rfl ?_
      refine gx_calli (As := [.int v1, .int v2]) (rest := [.ref (o 1)]) C (mt_X_fieldWord l dC dI cI cZ o W E _ _ _ _ hs) (gx_cwV C 2 ln_X_94 im_X_fieldWord se_X_fieldWord in_CountedObjects cd_X_fieldWord rfl rfl (by decide +kernel) ⟨Nat.le_of_ble_eq_true rfl, Nat.le_of_ble_eq_true rfl⟩) xo_this rfl (Nat.le_of_ble_eq_true rfl) dX_fetch_40 (fun S1 => xw_ad _ S1) rfl (fun r6 S5 hs => ?_)
      obtain ⟨hin, hs⟩ := hs
      refine gx_iald C xa_words hin dX_fetch_43 ?_
      exact gx_iretX C hr hlocks dX_fetch_44 hs
    · have hs := hf hc
      exact gx_throw1 C hZ hl hout hlocks (Nat.le_of_ble_eq_true rfl) (Nat.le_of_ble_eq_true rfl) (Nat.le_of_ble_eq_true rfl) (Nat.le_of_ble_eq_true rfl) dX_fetch_25 dX_fetch_28 dX_fetch_29 dX_fetch_32 hs
  · have hs := hf hc
    exact gx_throw2 C hZ hl hout hlocks (Nat.le_of_ble_eq_true rfl) (Nat.le_of_ble_eq_true rfl) (Nat.le_of_ble_eq_true rfl) (Nat.le_of_ble_eq_true rfl) dX_fetch_8 dX_fetch_11 dX_fetch_12 dX_fetch_15 hs
set_option maxHeartbeats 4000000 in
set_option maxRecDepth 100000 in
theorem mt_X_fetch (l : Launch) (hl : l.stackTraces = false) (dC : Nat → ClassId) (dI : Nat → Nat → Nat) (cI cZ : ClassId) (o : Nat → Nat) (W E : Nat) (v1 : Int32) (v2 : Int32) (S : GS) (post : Int32 → GS → Prop) (exc : String → GS → Prop) (h : wp_X_fetch W E [v1, v2] S post exc) : XMetI l yX_fetch (Cond.code yX_fetch cX_fetch 3 (some .int) :: wsA) ({ frames := 6, cells := 1, slots := 6, locals := 100 }) (dC, dI) gx_cl [(cI, .int), (cZ, .boolean)] (xw cI cZ o W E) [.ref (o 0), .int v1, .int v2] S post exc := by
  refine gx_metXI (by decide) wsA_good (Nat.le_of_ble_eq_true rfl) ?_
  intro p e s m args below meth c A C hr hlocks hZ hout
  refine h (vh_X_fetch o (GV p l e ({ frames := 6, cells := 1, slots := 6, locals := 100 }) s m args below meth c (vx_MQ below (va_Qi post (GB (xw cI cZ o W E) (dC, dI) gx_cl [(cI, .int), (cZ, .boolean)] A) A) (GX (xw cI cZ o W E) (dC, dI) gx_cl [(cI, .int), (cZ, .boolean)] A exc) args s 1 6 A) 3 (dC, dI) gx_cl A (xw cI cZ o W E))) (fun h S xs hs => ?_)
  unfold sp_X_fetch at hs
  split at hs
  · exact wk_X_fetch_0 hZ hl hout C hr hlocks _ _ _ hs
  · exact hs.elim
/-- CountedObjects.store(III)I: a step from head to head -/
def sp_X_store (W E : Nat) (post : Int32 → GS → Prop) (exc : String → GS → Prop) (V : Nat → GS → List Int32 → Prop) (h : Nat) (S : GS) (xs : List Int32) : Prop := match h, xs with
  | 0, [v1, v2, v3] => wp_X_isObject W E [v1] S (fun r2 S1 => ((¬ r2 = 0 → wp_X_hasField W E [v1, v2] S1 (fun r4 S3 => ((¬ r4 = 0 → wp_X_isValue W E [v3] S3 (fun r6 S5 => ((¬ r6 = 0 → wp_X_fieldWord W E [v1, v2] S5 (fun r8 S7 => (vp_in r8 W ∧ ∀ y9 : Int32, y9 = S7 0 (r8).toNatClampNeg → wp_X_addReference W E [v3] S7 (fun S10 => (vp_in r8 W ∧ ∀ S12 : GS, S12 = gx_set 0 (r8).toNatClampNeg v3 S10 → wp_X_dl W E 90 true [y9, 0] S12 (fun S13 => post y9 S13)))))) ∧ (r6 = 0 → exc xE2 S5)))) ∧ (r4 = 0 → exc xE1 S3)))) ∧ (r2 = 0 → exc xE2 S1)))
  | _, _ => False
def wp_X_store (W E : Nat) (xs : List Int32) (S : GS) (post : Int32 → GS → Prop) (exc : String → GS → Prop) : Prop := ∀ V : Nat → GS → List Int32 → Prop, (∀ h S xs, sp_X_store W E post exc V h S xs → V h S xs) → V 0 S xs
def vh_X_store (o : Nat → Nat) (G : GS → Nat → List (Nat × Value) → List Value → Prop) (h : Nat) (S : GS) (xs : List Int32) : Prop := match h, xs with
  | 0, [v1, v2, v3] => G S 0 [(0, .ref (o 0)), (1, .int v1), (2, .int v2), (3, .int v3)] []
  | _, _ => True
set_option maxHeartbeats 4000000 in
set_option maxRecDepth 100000 in
theorem wk_X_store_0 {l : Launch} {dC : Nat → ClassId} {dI : Nat → Nat → Nat} {cI cZ : ClassId} {o : Nat → Nat} {W E : Nat} {p : Program} {e : Env} {s : State} {m : MethodId} {args : Array Value} {below : List Frame} {meth : Method} {c : Code} {A : Nat → Prop} {post : Int32 → GS → Prop} {exc : String → GS → Prop} (hZ : ZX A s) (hl : l.stackTraces = false) (hout : ∀ x ∈ c.exceptionTable.toList, False) (C : GC p s m args c cX_store 6 RX wsA (dC, dI) gx_cl [(cI, .int), (cZ, .boolean)] A) (hr : meth.sig.returnType = (some .int)) (hlocks : meth.locks = false) (S : GS) (v1 : Int32) (v2 : Int32) (v3 : Int32) (hs : sp_X_store W E post exc (vh_X_store o (GV p l e ({ frames := 95, cells := 1, slots := 6, locals := 2382 }) s m args below meth c (vx_MQ below (va_Qi post (GB (xw cI cZ o W E) (dC, dI) gx_cl [(cI, .int), (cZ, .boolean)] A) A) (GX (xw cI cZ o W E) (dC, dI) gx_cl [(cI, .int), (cZ, .boolean)] A exc) args s 1 6 A) 6 (dC, dI) gx_cl A (xw cI cZ o W E))) 0 S [v1, v2, v3]) : GV p l e ({ frames := 95, cells := 1, slots := 6, locals := 2382 }) s m args below meth c (vx_MQ below (va_Qi post (GB (xw cI cZ o W E) (dC, dI) gx_cl [(cI, .int), (cZ, .boolean)] A) A) (GX (xw cI cZ o W E) (dC, dI) gx_cl [(cI, .int), (cZ, .boolean)] A exc) args s 1 6 A) 6 (dC, dI) gx_cl A (xw cI cZ o W E) S 0 [(0, .ref (o 0)), (1, .int v1), (2, .int v2), (3, .int v3)] [] := by
  refine gx_aload_n C dX_store_0 0 rfl rfl ?_
  refine gx_iload_n C dX_store_1 1 rfl rfl ?_
  refine gx_calli (As := [.int v1]) (rest := []) C (mt_X_isObject l dC dI cI cZ o W E _ _ _ hs) (gx_cwV C 1 ln_X_87 im_X_isObject se_X_isObject in_CountedObjects cd_X_isObject rfl rfl (by decide +kernel) ⟨Nat.le_of_ble_eq_true rfl, Nat.le_of_ble_eq_true rfl⟩) xo_this rfl (Nat.le_of_ble_eq_true rfl) dX_store_2 (fun S1 => xw_ad _ S1) rfl (fun r2 S1 hs => ?_)
  obtain ⟨ht, hf⟩ := hs
  refine gx_if_ne C dX_store_5 16 rfl (fun hc => ?_) (fun hc => ?_)
  · have hs := ht hc
    refine gx_aload_n C dX_store_16 0 rfl rfl ?_
    refine gx_iload_n C dX_store_17 1 rfl rfl ?_
    refine gx_iload_n C dX_store_18 2 rfl rfl ?_
    refine gx_calli (As := [.int v1, .int v2]) (rest := []) C (mt_X_hasField l dC dI cI cZ o W E _ _ _ _ hs) (gx_cwV C 2 ln_X_90 im_X_hasField se_X_hasField in_CountedObjects cd_X_hasField rfl rfl (by decide +kernel) ⟨Nat.le_of_ble_eq_true rfl, Nat.le_of_ble_eq_true rfl⟩) xo_this rfl (Nat.le_of_ble_eq_true rfl) dX_store_19 (fun S1 => xw_ad _ S1) rfl (fun r4 S3 hs => ?_)
    obtain ⟨ht, hf⟩ := hs
    refine gx_if_ne C dX_store_22 33 rfl (fun hc => ?_) (fun hc => ?_)
    · have hs := ht hc
      refine gx_aload_n C dX_store_33 0 rfl rfl ?_
      refine gx_iload_n C dX_store_34 3 rfl rfl ?_
      refine gx_calli (As := [.int v3]) (rest := []) C (mt_X_isValue l dC dI cI cZ o W E _ _ _ hs) (gx_cwV C 1 ln_X_64 im_X_isValue se_X_isValue in_CountedObjects cd_X_isValue rfl rfl (by decide +kernel) ⟨Nat.le_of_ble_eq_true rfl, Nat.le_of_ble_eq_true rfl⟩) xo_this rfl (Nat.le_of_ble_eq_true rfl) dX_store_35 (fun S1 => xw_ad _ S1) rfl (fun r6 S5 hs => ?_)
      obtain ⟨ht, hf⟩ := hs
      refine gx_if_ne C dX_store_38 49 rfl (fun hc => ?_) (fun hc => ?_)
      · have hs := ht hc
        refine gx_aload_n C dX_store_49 0 rfl rfl ?_
        refine gx_iload_n C dX_store_50 1 rfl rfl ?_
        refine gx_iload_n C dX_store_51 2 rfl rfl ?_
        refine gx_calli (As := [.int v1, .int v2]) (rest := []) C (mt_X_fieldWord l dC dI cI cZ o W E _ _ _ _ hs) (gx_cwV C 2 ln_X_94 im_X_fieldWord se_X_fieldWord in_CountedObjects cd_X_fieldWord rfl rfl (by decide +kernel) ⟨Nat.le_of_ble_eq_true rfl, Nat.le_of_ble_eq_true rfl⟩) xo_this rfl (Nat.le_of_ble_eq_true rfl) dX_store_52 (fun S1 => xw_ad _ S1) rfl (fun r8 S7 hs => ?_)
        refine gx_istore (L' := [(4, .int r8), (0, .ref (o 0)), (1, .int v1), (2, .int v2), (3, .int v3)]) C dX_store_55 (by decide) rfl ?_
        refine gx_aload_n C dX_store_57 1 rfl rfl ?_
        refine gx_get C xo_this hi_X 0 (by decide) fl_X_18 rfl dX_store_58 ?_
        refine gx_iload C dX_store_61 0 rfl ?_
        obtain ⟨hin, hs⟩ := hs
        refine gx_iald C xa_words hin dX_store_63 ?_
        refine gx_top (fun y9 ey9 => ?_)
        replace hs := hs y9 ey9
        refine gx_istore (L' := [(5, .int y9), (4, .int r8), (0, .ref (o 0)), (1, .int v1), (2, .int v2), (3, .int v3)]) C dX_store_64 (by decide) rfl ?_
        refine gx_aload_n C dX_store_66 2 rfl rfl ?_
        refine gx_iload_n C dX_store_67 5 rfl rfl ?_
        refine gx_callv (As := [.int v3]) (rest := []) C (mt_X_addReference l dC dI cI cZ o W E _ _ _ hs) (gx_cwV C 1 ln_X_97 im_X_addReference se_X_addReference in_CountedObjects cd_X_addReference rfl rfl (by decide +kernel) ⟨Nat.le_of_ble_eq_true rfl, Nat.le_of_ble_eq_true rfl⟩) xo_this rfl (Nat.le_of_ble_eq_true rfl) dX_store_68 (fun S1 => xw_ad _ S1) rfl (fun S10 hs => ?_)
        refine gx_aload_n C dX_store_71 2 rfl rfl ?_
        refine gx_get C xo_this hi_X 0 (by decide) fl_X_18 rfl dX_store_72 ?_
        refine gx_iload C dX_store_75 1 rfl ?_
        refine gx_iload_n C dX_store_77 5 rfl rfl ?_
        obtain ⟨hin, hs⟩ := hs
        refine gx_iast C xa_words hin dX_store_78 (fun S12 eS12 => ?_)
        replace hs := hs S12 eS12
        refine gx_aload_n C dX_store_79 2 rfl rfl ?_
        refine gx_iload C dX_store_80 0 rfl ?_
        refine gx_iconst (v := 0) C dX_store_82 (by decide) ?_
        refine gx_callv (As := [.int y9, .int 0]) (rest := []) C ((mt_X_dl l dC dI cI cZ o W E 90).1 _ _ _ _ hs) (gx_cwV C 2 ln_X_100 im_X_dropReference se_X_dropReference in_CountedObjects cd_X_dropReference rfl rfl (by decide +kernel) ⟨Nat.le_of_ble_eq_true rfl, Nat.le_of_ble_eq_true rfl⟩) xo_this rfl (Nat.le_of_ble_eq_true rfl) dX_store_83 (fun S1 => xw_ad _ S1) rfl (fun S13 hs => ?_)
        refine gx_iload C dX_store_86 0 rfl ?_
        exact gx_iretX C hr hlocks dX_store_88 hs
      · have hs := hf hc
        exact gx_throw2 C hZ hl hout hlocks (Nat.le_of_ble_eq_true rfl) (Nat.le_of_ble_eq_true rfl) (Nat.le_of_ble_eq_true rfl) (Nat.le_of_ble_eq_true rfl) dX_store_41 dX_store_44 dX_store_45 dX_store_48 hs
    · have hs := hf hc
      exact gx_throw1 C hZ hl hout hlocks (Nat.le_of_ble_eq_true rfl) (Nat.le_of_ble_eq_true rfl) (Nat.le_of_ble_eq_true rfl) (Nat.le_of_ble_eq_true rfl) dX_store_25 dX_store_28 dX_store_29 dX_store_32 hs
  · have hs := hf hc
    exact gx_throw2 C hZ hl hout hlocks (Nat.le_of_ble_eq_true rfl) (Nat.le_of_ble_eq_true rfl) (Nat.le_of_ble_eq_true rfl) (Nat.le_of_ble_eq_true rfl) dX_store_8 dX_store_11 dX_store_12 dX_store_15 hs
set_option maxHeartbeats 4000000 in
set_option maxRecDepth 100000 in
theorem mt_X_store (l : Launch) (hl : l.stackTraces = false) (dC : Nat → ClassId) (dI : Nat → Nat → Nat) (cI cZ : ClassId) (o : Nat → Nat) (W E : Nat) (v1 : Int32) (v2 : Int32) (v3 : Int32) (S : GS) (post : Int32 → GS → Prop) (exc : String → GS → Prop) (h : wp_X_store W E [v1, v2, v3] S post exc) : XMetI l yX_store (Cond.code yX_store cX_store 6 (some .int) :: wsA) ({ frames := 95, cells := 1, slots := 6, locals := 2382 }) (dC, dI) gx_cl [(cI, .int), (cZ, .boolean)] (xw cI cZ o W E) [.ref (o 0), .int v1, .int v2, .int v3] S post exc := by
  refine gx_metXI (by decide) wsA_good (Nat.le_of_ble_eq_true rfl) ?_
  intro p e s m args below meth c A C hr hlocks hZ hout
  refine h (vh_X_store o (GV p l e ({ frames := 95, cells := 1, slots := 6, locals := 2382 }) s m args below meth c (vx_MQ below (va_Qi post (GB (xw cI cZ o W E) (dC, dI) gx_cl [(cI, .int), (cZ, .boolean)] A) A) (GX (xw cI cZ o W E) (dC, dI) gx_cl [(cI, .int), (cZ, .boolean)] A exc) args s 1 6 A) 6 (dC, dI) gx_cl A (xw cI cZ o W E))) (fun h S xs hs => ?_)
  unfold sp_X_store at hs
  split at hs
  · exact wk_X_store_0 hZ hl hout C hr hlocks _ _ _ _ hs
  · exact hs.elim
/-- CountedObjects.type(I)I: a step from head to head -/
def sp_X_type (W E : Nat) (post : Int32 → GS → Prop) (exc : String → GS → Prop) (V : Nat → GS → List Int32 → Prop) (h : Nat) (S : GS) (xs : List Int32) : Prop := match h, xs with
  | 0, [v1] => wp_X_isObject W E [v1] S (fun r2 S1 => ((¬ r2 = 0 → (vp_in (v1 / 2) (E + 1) ∧ (vp_in ((S1 1 (v1 / 2).toNatClampNeg) + 1) W ∧ post (S1 0 ((S1 1 (v1 / 2).toNatClampNeg) + 1).toNatClampNeg) S1))) ∧ (r2 = 0 → exc xE2 S1)))
  | _, _ => False
def wp_X_type (W E : Nat) (xs : List Int32) (S : GS) (post : Int32 → GS → Prop) (exc : String → GS → Prop) : Prop := ∀ V : Nat → GS → List Int32 → Prop, (∀ h S xs, sp_X_type W E post exc V h S xs → V h S xs) → V 0 S xs
def vh_X_type (o : Nat → Nat) (G : GS → Nat → List (Nat × Value) → List Value → Prop) (h : Nat) (S : GS) (xs : List Int32) : Prop := match h, xs with
  | 0, [v1] => G S 0 [(0, .ref (o 0)), (1, .int v1)] []
  | _, _ => True
set_option maxHeartbeats 4000000 in
set_option maxRecDepth 100000 in
theorem wk_X_type_0 {l : Launch} {dC : Nat → ClassId} {dI : Nat → Nat → Nat} {cI cZ : ClassId} {o : Nat → Nat} {W E : Nat} {p : Program} {e : Env} {s : State} {m : MethodId} {args : Array Value} {below : List Frame} {meth : Method} {c : Code} {A : Nat → Prop} {post : Int32 → GS → Prop} {exc : String → GS → Prop} (hZ : ZX A s) (hl : l.stackTraces = false) (hout : ∀ x ∈ c.exceptionTable.toList, False) (C : GC p s m args c cX_type 2 RX wsA (dC, dI) gx_cl [(cI, .int), (cZ, .boolean)] A) (hr : meth.sig.returnType = (some .int)) (hlocks : meth.locks = false) (S : GS) (v1 : Int32) (hs : sp_X_type W E post exc (vh_X_type o (GV p l e ({ frames := 6, cells := 1, slots := 6, locals := 100 }) s m args below meth c (vx_MQ below (va_Qi post (GB (xw cI cZ o W E) (dC, dI) gx_cl [(cI, .int), (cZ, .boolean)] A) A) (GX (xw cI cZ o W E) (dC, dI) gx_cl [(cI, .int), (cZ, .boolean)] A exc) args s 1 6 A) 2 (dC, dI) gx_cl A (xw cI cZ o W E))) 0 S [v1]) : GV p l e ({ frames := 6, cells := 1, slots := 6, locals := 100 }) s m args below meth c (vx_MQ below (va_Qi post (GB (xw cI cZ o W E) (dC, dI) gx_cl [(cI, .int), (cZ, .boolean)] A) A) (GX (xw cI cZ o W E) (dC, dI) gx_cl [(cI, .int), (cZ, .boolean)] A exc) args s 1 6 A) 2 (dC, dI) gx_cl A (xw cI cZ o W E) S 0 [(0, .ref (o 0)), (1, .int v1)] [] := by
  refine gx_aload_n C dX_type_0 0 rfl rfl ?_
  refine gx_iload_n C dX_type_1 1 rfl rfl ?_
  refine gx_calli (As := [.int v1]) (rest := []) C (mt_X_isObject l dC dI cI cZ o W E _ _ _ hs) (gx_cwV C 1 ln_X_87 im_X_isObject se_X_isObject in_CountedObjects cd_X_isObject rfl rfl (by decide +kernel) ⟨Nat.le_of_ble_eq_true rfl, Nat.le_of_ble_eq_true rfl⟩) xo_this rfl (Nat.le_of_ble_eq_true rfl) dX_type_2 (fun S1 => xw_ad _ S1) rfl (fun r2 S1 hs => ?_)
  obtain ⟨ht, hf⟩ := hs
  refine gx_if_ne C dX_type_5 16 rfl (fun hc => ?_) (fun hc => ?_)
  · have hs := ht hc
    refine gx_aload_n C dX_type_16 0 rfl rfl ?_
    refine gx_get C xo_this hi_X 0 (by decide) fl_X_18 rfl dX_type_17 ?_
    refine gx_aload_n C dX_type_20 0 rfl rfl ?_
    refine gx_get C xo_this hi_X 1 (by decide) fl_X_22 rfl dX_type_21 ?_
    refine gx_iload_n C dX_type_24 1 rfl rfl ?_
    refine gx_iconst (v := 2) C dX_type_25 (by decide) ?_
    refine gx_idiv C dX_type_26 (by decide) ?_
    obtain ⟨hin, hs⟩ := hs
    refine gx_iald C xa_addresses hin dX_type_27 ?_
    refine gx_iconst (v := 1) C dX_type_28 (by decide) ?_
    refine gx_iadd C dX_type_29 ?_
    obtain ⟨hin, hs⟩ := hs
    refine gx_iald C xa_words hin dX_type_30 ?_
    exact gx_iretX C hr hlocks dX_type_31 hs
  · have hs := hf hc
    exact gx_throw2 C hZ hl hout hlocks (Nat.le_of_ble_eq_true rfl) (Nat.le_of_ble_eq_true rfl) (Nat.le_of_ble_eq_true rfl) (Nat.le_of_ble_eq_true rfl) dX_type_8 dX_type_11 dX_type_12 dX_type_15 hs
set_option maxHeartbeats 4000000 in
set_option maxRecDepth 100000 in
theorem mt_X_type (l : Launch) (hl : l.stackTraces = false) (dC : Nat → ClassId) (dI : Nat → Nat → Nat) (cI cZ : ClassId) (o : Nat → Nat) (W E : Nat) (v1 : Int32) (S : GS) (post : Int32 → GS → Prop) (exc : String → GS → Prop) (h : wp_X_type W E [v1] S post exc) : XMetI l yX_type (Cond.code yX_type cX_type 2 (some .int) :: wsA) ({ frames := 6, cells := 1, slots := 6, locals := 100 }) (dC, dI) gx_cl [(cI, .int), (cZ, .boolean)] (xw cI cZ o W E) [.ref (o 0), .int v1] S post exc := by
  refine gx_metXI (by decide) wsA_good (Nat.le_of_ble_eq_true rfl) ?_
  intro p e s m args below meth c A C hr hlocks hZ hout
  refine h (vh_X_type o (GV p l e ({ frames := 6, cells := 1, slots := 6, locals := 100 }) s m args below meth c (vx_MQ below (va_Qi post (GB (xw cI cZ o W E) (dC, dI) gx_cl [(cI, .int), (cZ, .boolean)] A) A) (GX (xw cI cZ o W E) (dC, dI) gx_cl [(cI, .int), (cZ, .boolean)] A exc) args s 1 6 A) 2 (dC, dI) gx_cl A (xw cI cZ o W E))) (fun h S xs hs => ?_)
  unfold sp_X_type at hs
  split at hs
  · exact wk_X_type_0 hZ hl hout C hr hlocks _ _ hs
  · exact hs.elim
/-- CountedObjects.fields(I)I: a step from head to head -/
def sp_X_fields (W E : Nat) (post : Int32 → GS → Prop) (exc : String → GS → Prop) (V : Nat → GS → List Int32 → Prop) (h : Nat) (S : GS) (xs : List Int32) : Prop := match h, xs with
  | 0, [v1] => wp_X_isObject W E [v1] S (fun r2 S1 => ((¬ r2 = 0 → (vp_in (v1 / 2) (E + 1) ∧ (vp_in (S1 1 (v1 / 2).toNatClampNeg) W ∧ post (S1 0 (S1 1 (v1 / 2).toNatClampNeg).toNatClampNeg) S1))) ∧ (r2 = 0 → exc xE2 S1)))
  | _, _ => False
def wp_X_fields (W E : Nat) (xs : List Int32) (S : GS) (post : Int32 → GS → Prop) (exc : String → GS → Prop) : Prop := ∀ V : Nat → GS → List Int32 → Prop, (∀ h S xs, sp_X_fields W E post exc V h S xs → V h S xs) → V 0 S xs
def vh_X_fields (o : Nat → Nat) (G : GS → Nat → List (Nat × Value) → List Value → Prop) (h : Nat) (S : GS) (xs : List Int32) : Prop := match h, xs with
  | 0, [v1] => G S 0 [(0, .ref (o 0)), (1, .int v1)] []
  | _, _ => True
set_option maxHeartbeats 4000000 in
set_option maxRecDepth 100000 in
theorem wk_X_fields_0 {l : Launch} {dC : Nat → ClassId} {dI : Nat → Nat → Nat} {cI cZ : ClassId} {o : Nat → Nat} {W E : Nat} {p : Program} {e : Env} {s : State} {m : MethodId} {args : Array Value} {below : List Frame} {meth : Method} {c : Code} {A : Nat → Prop} {post : Int32 → GS → Prop} {exc : String → GS → Prop} (hZ : ZX A s) (hl : l.stackTraces = false) (hout : ∀ x ∈ c.exceptionTable.toList, False) (C : GC p s m args c cX_fields 2 RX wsA (dC, dI) gx_cl [(cI, .int), (cZ, .boolean)] A) (hr : meth.sig.returnType = (some .int)) (hlocks : meth.locks = false) (S : GS) (v1 : Int32) (hs : sp_X_fields W E post exc (vh_X_fields o (GV p l e ({ frames := 6, cells := 1, slots := 6, locals := 100 }) s m args below meth c (vx_MQ below (va_Qi post (GB (xw cI cZ o W E) (dC, dI) gx_cl [(cI, .int), (cZ, .boolean)] A) A) (GX (xw cI cZ o W E) (dC, dI) gx_cl [(cI, .int), (cZ, .boolean)] A exc) args s 1 6 A) 2 (dC, dI) gx_cl A (xw cI cZ o W E))) 0 S [v1]) : GV p l e ({ frames := 6, cells := 1, slots := 6, locals := 100 }) s m args below meth c (vx_MQ below (va_Qi post (GB (xw cI cZ o W E) (dC, dI) gx_cl [(cI, .int), (cZ, .boolean)] A) A) (GX (xw cI cZ o W E) (dC, dI) gx_cl [(cI, .int), (cZ, .boolean)] A exc) args s 1 6 A) 2 (dC, dI) gx_cl A (xw cI cZ o W E) S 0 [(0, .ref (o 0)), (1, .int v1)] [] := by
  refine gx_aload_n C dX_fields_0 0 rfl rfl ?_
  refine gx_iload_n C dX_fields_1 1 rfl rfl ?_
  refine gx_calli (As := [.int v1]) (rest := []) C (mt_X_isObject l dC dI cI cZ o W E _ _ _ hs) (gx_cwV C 1 ln_X_87 im_X_isObject se_X_isObject in_CountedObjects cd_X_isObject rfl rfl (by decide +kernel) ⟨Nat.le_of_ble_eq_true rfl, Nat.le_of_ble_eq_true rfl⟩) xo_this rfl (Nat.le_of_ble_eq_true rfl) dX_fields_2 (fun S1 => xw_ad _ S1) rfl (fun r2 S1 hs => ?_)
  obtain ⟨ht, hf⟩ := hs
  refine gx_if_ne C dX_fields_5 16 rfl (fun hc => ?_) (fun hc => ?_)
  · have hs := ht hc
    refine gx_aload_n C dX_fields_16 0 rfl rfl ?_
    refine gx_get C xo_this hi_X 0 (by decide) fl_X_18 rfl dX_fields_17 ?_
    refine gx_aload_n C dX_fields_20 0 rfl rfl ?_
    refine gx_get C xo_this hi_X 1 (by decide) fl_X_22 rfl dX_fields_21 ?_
    refine gx_iload_n C dX_fields_24 1 rfl rfl ?_
    refine gx_iconst (v := 2) C dX_fields_25 (by decide) ?_
    refine gx_idiv C dX_fields_26 (by decide) ?_
    obtain ⟨hin, hs⟩ := hs
    refine gx_iald C xa_addresses hin dX_fields_27 ?_
    obtain ⟨hin, hs⟩ := hs
    refine gx_iald C xa_words hin dX_fields_28 ?_
    exact gx_iretX C hr hlocks dX_fields_29 hs
  · have hs := hf hc
    exact gx_throw2 C hZ hl hout hlocks (Nat.le_of_ble_eq_true rfl) (Nat.le_of_ble_eq_true rfl) (Nat.le_of_ble_eq_true rfl) (Nat.le_of_ble_eq_true rfl) dX_fields_8 dX_fields_11 dX_fields_12 dX_fields_15 hs
set_option maxHeartbeats 4000000 in
set_option maxRecDepth 100000 in
theorem mt_X_fields (l : Launch) (hl : l.stackTraces = false) (dC : Nat → ClassId) (dI : Nat → Nat → Nat) (cI cZ : ClassId) (o : Nat → Nat) (W E : Nat) (v1 : Int32) (S : GS) (post : Int32 → GS → Prop) (exc : String → GS → Prop) (h : wp_X_fields W E [v1] S post exc) : XMetI l yX_fields (Cond.code yX_fields cX_fields 2 (some .int) :: wsA) ({ frames := 6, cells := 1, slots := 6, locals := 100 }) (dC, dI) gx_cl [(cI, .int), (cZ, .boolean)] (xw cI cZ o W E) [.ref (o 0), .int v1] S post exc := by
  refine gx_metXI (by decide) wsA_good (Nat.le_of_ble_eq_true rfl) ?_
  intro p e s m args below meth c A C hr hlocks hZ hout
  refine h (vh_X_fields o (GV p l e ({ frames := 6, cells := 1, slots := 6, locals := 100 }) s m args below meth c (vx_MQ below (va_Qi post (GB (xw cI cZ o W E) (dC, dI) gx_cl [(cI, .int), (cZ, .boolean)] A) A) (GX (xw cI cZ o W E) (dC, dI) gx_cl [(cI, .int), (cZ, .boolean)] A exc) args s 1 6 A) 2 (dC, dI) gx_cl A (xw cI cZ o W E))) (fun h S xs hs => ?_)
  unfold sp_X_fields at hs
  split at hs
  · exact wk_X_fields_0 hZ hl hout C hr hlocks _ _ hs
  · exact hs.elim
/-- CountedObjects.become(II)V: a step from head to head -/
def sp_X_become (W E : Nat) (post : GS → Prop) (exc : String → GS → Prop) (V : Nat → GS → List Int32 → Prop) (h : Nat) (S : GS) (xs : List Int32) : Prop := match h, xs with
  | 0, [v1, v2] => wp_X_isObject W E [v1] S (fun r2 S1 => ((r2 = 0 → exc xE2 S1) ∧ (¬ r2 = 0 → wp_X_isObject W E [v2] S1 (fun r4 S3 => ((¬ r4 = 0 → (vp_in (v1 / 2) (E + 1) ∧ ∀ y5 : Int32, y5 = S3 1 (v1 / 2).toNatClampNeg → (vp_in (v2 / 2) (E + 1) ∧ (vp_in (v1 / 2) (E + 1) ∧ ∀ S6 : GS, S6 = gx_set 1 (v1 / 2).toNatClampNeg (S3 1 (v2 / 2).toNatClampNeg) S3 → (vp_in (v2 / 2) (E + 1) ∧ ∀ S7 : GS, S7 = gx_set 1 (v2 / 2).toNatClampNeg y5 S6 → post S7))))) ∧ (r4 = 0 → exc xE2 S3))))))
  | _, _ => False
def wp_X_become (W E : Nat) (xs : List Int32) (S : GS) (post : GS → Prop) (exc : String → GS → Prop) : Prop := ∀ V : Nat → GS → List Int32 → Prop, (∀ h S xs, sp_X_become W E post exc V h S xs → V h S xs) → V 0 S xs
def vh_X_become (o : Nat → Nat) (G : GS → Nat → List (Nat × Value) → List Value → Prop) (h : Nat) (S : GS) (xs : List Int32) : Prop := match h, xs with
  | 0, [v1, v2] => G S 0 [(0, .ref (o 0)), (1, .int v1), (2, .int v2)] []
  | _, _ => True
set_option maxHeartbeats 4000000 in
set_option maxRecDepth 100000 in
theorem wk_X_become_0 {l : Launch} {dC : Nat → ClassId} {dI : Nat → Nat → Nat} {cI cZ : ClassId} {o : Nat → Nat} {W E : Nat} {p : Program} {e : Env} {s : State} {m : MethodId} {args : Array Value} {below : List Frame} {meth : Method} {c : Code} {A : Nat → Prop} {post : GS → Prop} {exc : String → GS → Prop} (hZ : ZX A s) (hl : l.stackTraces = false) (hout : ∀ x ∈ c.exceptionTable.toList, False) (C : GC p s m args c cX_become 4 RX wsA (dC, dI) gx_cl [(cI, .int), (cZ, .boolean)] A) (hr : meth.sig.returnType = none) (hlocks : meth.locks = false) (S : GS) (v1 : Int32) (v2 : Int32) (hs : sp_X_become W E post exc (vh_X_become o (GV p l e ({ frames := 6, cells := 1, slots := 6, locals := 100 }) s m args below meth c (vx_MQ below (va_Qv post (GB (xw cI cZ o W E) (dC, dI) gx_cl [(cI, .int), (cZ, .boolean)] A) A) (GX (xw cI cZ o W E) (dC, dI) gx_cl [(cI, .int), (cZ, .boolean)] A exc) args s 1 6 A) 4 (dC, dI) gx_cl A (xw cI cZ o W E))) 0 S [v1, v2]) : GV p l e ({ frames := 6, cells := 1, slots := 6, locals := 100 }) s m args below meth c (vx_MQ below (va_Qv post (GB (xw cI cZ o W E) (dC, dI) gx_cl [(cI, .int), (cZ, .boolean)] A) A) (GX (xw cI cZ o W E) (dC, dI) gx_cl [(cI, .int), (cZ, .boolean)] A exc) args s 1 6 A) 4 (dC, dI) gx_cl A (xw cI cZ o W E) S 0 [(0, .ref (o 0)), (1, .int v1), (2, .int v2)] [] := by
  refine gx_aload_n C dX_become_0 0 rfl rfl ?_
  refine gx_iload_n C dX_become_1 1 rfl rfl ?_
  refine gx_calli (As := [.int v1]) (rest := []) C (mt_X_isObject l dC dI cI cZ o W E _ _ _ hs) (gx_cwV C 1 ln_X_87 im_X_isObject se_X_isObject in_CountedObjects cd_X_isObject rfl rfl (by decide +kernel) ⟨Nat.le_of_ble_eq_true rfl, Nat.le_of_ble_eq_true rfl⟩) xo_this rfl (Nat.le_of_ble_eq_true rfl) dX_become_2 (fun S1 => xw_ad _ S1) rfl (fun r2 S1 hs => ?_)
  obtain ⟨ht, hf⟩ := hs
  refine gx_if_eq C dX_become_5 16 rfl (fun hc => ?_) (fun hc => ?_)
  · have hs := ht hc
    exact gx_throw2 C hZ hl hout hlocks (Nat.le_of_ble_eq_true rfl) (Nat.le_of_ble_eq_true rfl) (Nat.le_of_ble_eq_true rfl) (Nat.le_of_ble_eq_true rfl) dX_become_16 dX_become_19 dX_become_20 dX_become_23 hs
  · have hs := hf hc
    refine gx_aload_n C dX_become_8 0 rfl rfl ?_
    refine gx_iload_n C dX_become_9 2 rfl rfl ?_
    refine gx_calli (As := [.int v2]) (rest := []) C (mt_X_isObject l dC dI cI cZ o W E _ _ _ hs) (gx_cwV C 1 ln_X_87 im_X_isObject se_X_isObject in_CountedObjects cd_X_isObject rfl rfl (by decide +kernel) ⟨Nat.le_of_ble_eq_true rfl, Nat.le_of_ble_eq_true rfl⟩) xo_this rfl (Nat.le_of_ble_eq_true rfl) dX_become_10 (fun S1 => xw_ad _ S1) rfl (fun r4 S3 hs => ?_)
    obtain ⟨ht, hf⟩ := hs
    refine gx_if_ne C dX_become_13 24 rfl (fun hc => ?_) (fun hc => ?_)
    · have hs := ht hc
      refine gx_aload_n C dX_become_24 0 rfl rfl ?_
      refine gx_get C xo_this hi_X 1 (by decide) fl_X_22 rfl dX_become_25 ?_
      refine gx_iload_n C dX_become_28 1 rfl rfl ?_
      refine gx_iconst (v := 2) C dX_become_29 (by decide) ?_
      refine gx_idiv C dX_become_30 (by decide) ?_
      obtain ⟨hin, hs⟩ := hs
      refine gx_iald C xa_addresses hin dX_become_31 ?_
      refine gx_top (fun y5 ey5 => ?_)
      replace hs := hs y5 ey5
      refine gx_istore_n (L' := [(3, .int y5), (0, .ref (o 0)), (1, .int v1), (2, .int v2)]) C dX_become_32 rfl (by decide) rfl ?_
      refine gx_aload_n C dX_become_33 1 rfl rfl ?_
      refine gx_get C xo_this hi_X 1 (by decide) fl_X_22 rfl dX_become_34 ?_
      refine gx_iload_n C dX_become_37 2 rfl rfl ?_
      refine gx_iconst (v := 2) C dX_become_38 (by decide) ?_
      refine gx_idiv C dX_become_39 (by decide) ?_
      refine gx_aload_n C dX_become_40 1 rfl rfl ?_
      refine gx_get C xo_this hi_X 1 (by decide) fl_X_22 rfl dX_become_41 ?_
      refine gx_iload_n C dX_become_44 3 rfl rfl ?_
      refine gx_iconst (v := 2) C dX_become_45 (by decide) ?_
      refine gx_idiv C dX_become_46 (by decide) ?_
      obtain ⟨hin, hs⟩ := hs
      refine gx_iald C xa_addresses hin dX_become_47 ?_
      obtain ⟨hin, hs⟩ := hs
      refine gx_iast C xa_addresses hin dX_become_48 (fun S6 eS6 => ?_)
      replace hs := hs S6 eS6
      refine gx_aload_n C dX_become_49 1 rfl rfl ?_
      refine gx_get C xo_this hi_X 1 (by decide) fl_X_22 rfl dX_become_50 ?_
      refine gx_iload_n C dX_become_53 3 rfl rfl ?_
      refine gx_iconst (v := 2) C dX_become_54 (by decide) ?_
      refine gx_idiv C dX_become_55 (by decide) ?_
      refine gx_iload_n C dX_become_56 0 rfl rfl ?_
      obtain ⟨hin, hs⟩ := hs
      refine gx_iast C xa_addresses hin dX_become_57 (fun S7 eS7 => ?_)
      replace hs := hs S7 eS7
      exact gx_vretX C hr hlocks dX_become_58 hs
    · have hs := hf hc
      exact gx_throw2 C hZ hl hout hlocks (Nat.le_of_ble_eq_true rfl) (Nat.le_of_ble_eq_true rfl) (Nat.le_of_ble_eq_true rfl) (Nat.le_of_ble_eq_true rfl) dX_become_16 dX_become_19 dX_become_20 dX_become_23 hs
set_option maxHeartbeats 4000000 in
set_option maxRecDepth 100000 in
theorem mt_X_become (l : Launch) (hl : l.stackTraces = false) (dC : Nat → ClassId) (dI : Nat → Nat → Nat) (cI cZ : ClassId) (o : Nat → Nat) (W E : Nat) (v1 : Int32) (v2 : Int32) (S : GS) (post : GS → Prop) (exc : String → GS → Prop) (h : wp_X_become W E [v1, v2] S post exc) : XMetV l yX_become (Cond.code yX_become cX_become 4 none :: wsA) ({ frames := 6, cells := 1, slots := 6, locals := 100 }) (dC, dI) gx_cl [(cI, .int), (cZ, .boolean)] (xw cI cZ o W E) [.ref (o 0), .int v1, .int v2] S post exc := by
  refine gx_metXV (by decide) wsA_good (Nat.le_of_ble_eq_true rfl) ?_
  intro p e s m args below meth c A C hr hlocks hZ hout
  refine h (vh_X_become o (GV p l e ({ frames := 6, cells := 1, slots := 6, locals := 100 }) s m args below meth c (vx_MQ below (va_Qv post (GB (xw cI cZ o W E) (dC, dI) gx_cl [(cI, .int), (cZ, .boolean)] A) A) (GX (xw cI cZ o W E) (dC, dI) gx_cl [(cI, .int), (cZ, .boolean)] A exc) args s 1 6 A) 4 (dC, dI) gx_cl A (xw cI cZ o W E))) (fun h S xs hs => ?_)
  unfold sp_X_become at hs
  split at hs
  · exact wk_X_become_0 hZ hl hout C hr hlocks _ _ _ hs
  · exact hs.elim
