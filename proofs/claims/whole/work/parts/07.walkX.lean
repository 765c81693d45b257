/-- CountedObjects.isRegister(I)Z: a step from head to head -/
def sp_X_isRegister (W E : Nat) (post : Int32 → GS → Prop) (V : Nat → GS → List Int32 → Prop) (h : Nat) (S : GS) (xs : List Int32) : Prop := match h, xs with
  | 0, [v0] => ((v0 < 0 → post 0 S) ∧ (¬ v0 < 0 → ((8 ≤ v0 → post 0 S) ∧ (¬ 8 ≤ v0 → post 1 S))))
  | _, _ => False
def wp_X_isRegister (W E : Nat) (xs : List Int32) (S : GS) (post : Int32 → GS → Prop) : Prop := ∀ V : Nat → GS → List Int32 → Prop, (∀ h S xs, sp_X_isRegister W E post V h S xs → V h S xs) → V 0 S xs
def vh_X_isRegister (o : Nat → Nat) (G : GS → Nat → List (Nat × Value) → List Value → Prop) (h : Nat) (S : GS) (xs : List Int32) : Prop := match h, xs with
  | 0, [v0] => G S 0 [(0, .int v0)] []
  | _, _ => True
set_option maxHeartbeats 4000000 in
set_option maxRecDepth 100000 in
theorem wk_X_isRegister_0 {l : Launch} {dC : Nat → ClassId} {dI : Nat → Nat → Nat} {cI cZ : ClassId} {o : Nat → Nat} {W E : Nat} {p : Program} {e : Env} {s : State} {m : MethodId} {args : Array Value} {below : List Frame} {meth : Method} {c : Code} {A : Nat → Prop} {post : Int32 → GS → Prop} (C : GC p s m args c cX_isRegister 1 RX wsA (dC, dI) gx_cl [(cI, .int), (cZ, .boolean)] A) (hr : meth.sig.returnType = (some .boolean)) (hlocks : meth.locks = false) (S : GS) (v0 : Int32) (hs : sp_X_isRegister W E post (vh_X_isRegister o (GV p l e { frames := 0, cells := 0, slots := 0, locals := 0 } s m args below meth c (MQ below (va_Qi post (GB (xw cI cZ o W E) (dC, dI) gx_cl [(cI, .int), (cZ, .boolean)] A) A) args s 0 0 A) 1 (dC, dI) gx_cl A (xw cI cZ o W E))) 0 S [v0]) : GV p l e { frames := 0, cells := 0, slots := 0, locals := 0 } s m args below meth c (MQ below (va_Qi post (GB (xw cI cZ o W E) (dC, dI) gx_cl [(cI, .int), (cZ, .boolean)] A) A) args s 0 0 A) 1 (dC, dI) gx_cl A (xw cI cZ o W E) S 0 [(0, .int v0)] [] := by
  refine gx_iload_n C dX_isRegister_0 0 rfl rfl ?_
  obtain ⟨ht, hf⟩ := hs
  refine gx_if_lt C dX_isRegister_1 14 rfl (fun hc => ?_) (fun hc => ?_)
  · have hs := ht hc
    refine gx_iconst (v := 0) C dX_isRegister_14 (by decide) ?_
    exact gx_zret C hr hlocks dX_isRegister_15 hs rfl
  · have hs := hf hc
    refine gx_iload_n C dX_isRegister_4 0 rfl rfl ?_
    refine gx_bipush (v := 8) C dX_isRegister_5 (by decide) ?_
    obtain ⟨ht, hf⟩ := hs
    refine gx_icmp_ge C dX_isRegister_7 14 rfl (fun hc => ?_) (fun hc => ?_)
    · have hs := ht hc
      refine gx_iconst (v := 0) C dX_isRegister_14 (by decide) ?_
      exact gx_zret C hr hlocks dX_isRegister_15 hs rfl
    · have hs := hf hc
      refine gx_iconst (v := 1) C dX_isRegister_10 (by decide) ?_
      refine gx_goto C dX_isRegister_11 15 rfl ?_
      exact gx_zret C hr hlocks dX_isRegister_15 hs rfl
set_option maxHeartbeats 4000000 in
set_option maxRecDepth 100000 in
theorem mt_X_isRegister (l : Launch) (dC : Nat → ClassId) (dI : Nat → Nat → Nat) (cI cZ : ClassId) (o : Nat → Nat) (W E : Nat) (v0 : Int32) (S : GS) (post : Int32 → GS → Prop) (h : wp_X_isRegister W E [v0] S post) : MetI l yX_isRegister (Cond.code yX_isRegister cX_isRegister 1 (some .boolean) :: wsA) ({ frames := 0, cells := 0, slots := 0, locals := 0 }) (dC, dI) gx_cl [(cI, .int), (cZ, .boolean)] (xw cI cZ o W E) [.int v0] S post := by
  refine gx_metI (by decide) wsA_good (Nat.le_of_ble_eq_true rfl) ?_
  intro p e s m args below meth c A C hr hlocks
  refine h (vh_X_isRegister o (GV p l e { frames := 0, cells := 0, slots := 0, locals := 0 } s m args below meth c (MQ below (va_Qi post (GB (xw cI cZ o W E) (dC, dI) gx_cl [(cI, .int), (cZ, .boolean)] A) A) args s 0 0 A) 1 (dC, dI) gx_cl A (xw cI cZ o W E))) (fun h S xs hs => ?_)
  unfold sp_X_isRegister at hs
  split at hs
  · exact wk_X_isRegister_0 C hr hlocks _ _ hs
  · exact hs.elim
/-- CountedObjects.isUsed(I)Z: a step from head to head -/
def sp_X_isUsed (W E : Nat) (post : Int32 → GS → Prop) (V : Nat → GS → List Int32 → Prop) (h : Nat) (S : GS) (xs : List Int32) : Prop := match h, xs with
  | 0, [v1] => (vp_in v1 (E + 1) ∧ (((S 1 (v1).toNatClampNeg) = (-1) → post 0 S) ∧ (¬ (S 1 (v1).toNatClampNeg) = (-1) → post 1 S)))
  | _, _ => False
def wp_X_isUsed (W E : Nat) (xs : List Int32) (S : GS) (post : Int32 → GS → Prop) : Prop := ∀ V : Nat → GS → List Int32 → Prop, (∀ h S xs, sp_X_isUsed W E post V h S xs → V h S xs) → V 0 S xs
def vh_X_isUsed (o : Nat → Nat) (G : GS → Nat → List (Nat × Value) → List Value → Prop) (h : Nat) (S : GS) (xs : List Int32) : Prop := match h, xs with
  | 0, [v1] => G S 0 [(0, .ref (o 0)), (1, .int v1)] []
  | _, _ => True
set_option maxHeartbeats 4000000 in
set_option maxRecDepth 100000 in
theorem wk_X_isUsed_0 {l : Launch} {dC : Nat → ClassId} {dI : Nat → Nat → Nat} {cI cZ : ClassId} {o : Nat → Nat} {W E : Nat} {p : Program} {e : Env} {s : State} {m : MethodId} {args : Array Value} {below : List Frame} {meth : Method} {c : Code} {A : Nat → Prop} {post : Int32 → GS → Prop} (C : GC p s m args c cX_isUsed 2 RX wsA (dC, dI) gx_cl [(cI, .int), (cZ, .boolean)] A) (hr : meth.sig.returnType = (some .boolean)) (hlocks : meth.locks = false) (S : GS) (v1 : Int32) (hs : sp_X_isUsed W E post (vh_X_isUsed o (GV p l e { frames := 0, cells := 0, slots := 0, locals := 0 } s m args below meth c (MQ below (va_Qi post (GB (xw cI cZ o W E) (dC, dI) gx_cl [(cI, .int), (cZ, .boolean)] A) A) args s 0 0 A) 2 (dC, dI) gx_cl A (xw cI cZ o W E))) 0 S [v1]) : GV p l e { frames := 0, cells := 0, slots := 0, locals := 0 } s m args below meth c (MQ below (va_Qi post (GB (xw cI cZ o W E) (dC, dI) gx_cl [(cI, .int), (cZ, .boolean)] A) A) args s 0 0 A) 2 (dC, dI) gx_cl A (xw cI cZ o W E) S 0 [(0, .ref (o 0)), (1, .int v1)] [] := by
  refine gx_aload_n C dX_isUsed_0 0 rfl rfl ?_
  refine gx_get C xo_this hi_X 1 (by decide) fl_X_22 rfl dX_isUsed_1 ?_
  refine gx_iload_n C dX_isUsed_4 1 rfl rfl ?_
  obtain ⟨hin, hs⟩ := hs
  refine gx_iald C xa_addresses hin dX_isUsed_5 ?_
  refine gx_iconst (v := (-1)) C dX_isUsed_6 (by decide) ?_
  obtain ⟨ht, hf⟩ := hs
  refine gx_icmp_eq C dX_isUsed_7 14 rfl (fun hc => ?_) (fun hc => ?_)
  · have hs := ht hc
    refine gx_iconst (v := 0) C dX_isUsed_14 (by decide) ?_
    exact gx_zret C hr hlocks dX_isUsed_15 hs rfl
  · have hs := hf hc
    refine gx_iconst (v := 1) C dX_isUsed_10 (by decide) ?_
    refine gx_goto C dX_isUsed_11 15 rfl ?_
    exact gx_zret C hr hlocks dX_isUsed_15 hs rfl
set_option maxHeartbeats 4000000 in
set_option maxRecDepth 100000 in
theorem mt_X_isUsed (l : Launch) (dC : Nat → ClassId) (dI : Nat → Nat → Nat) (cI cZ : ClassId) (o : Nat → Nat) (W E : Nat) (v1 : Int32) (S : GS) (post : Int32 → GS → Prop) (h : wp_X_isUsed W E [v1] S post) : MetI l yX_isUsed (Cond.code yX_isUsed cX_isUsed 2 (some .boolean) :: wsA) ({ frames := 0, cells := 0, slots := 0, locals := 0 }) (dC, dI) gx_cl [(cI, .int), (cZ, .boolean)] (xw cI cZ o W E) [.ref (o 0), .int v1] S post := by
  refine gx_metI (by decide) wsA_good (Nat.le_of_ble_eq_true rfl) ?_
  intro p e s m args below meth c A C hr hlocks
  refine h (vh_X_isUsed o (GV p l e { frames := 0, cells := 0, slots := 0, locals := 0 } s m args below meth c (MQ below (va_Qi post (GB (xw cI cZ o W E) (dC, dI) gx_cl [(cI, .int), (cZ, .boolean)] A) A) args s 0 0 A) 2 (dC, dI) gx_cl A (xw cI cZ o W E))) (fun h S xs hs => ?_)
  unfold sp_X_isUsed at hs
  split at hs
  · exact wk_X_isUsed_0 C hr hlocks _ _ hs
  · exact hs.elim
/-- CountedObjects.isObject(I)Z: a step from head to head -/
def sp_X_isObject (W E : Nat) (post : Int32 → GS → Prop) (V : Nat → GS → List Int32 → Prop) (h : Nat) (S : GS) (xs : List Int32) : Prop := match h, xs with
  | 0, [v1] => ((v1 ≤ 0 → post 0 S) ∧ (¬ v1 ≤ 0 → ((¬ (v1 - v1 / 2 * 2) = 0 → post 0 S) ∧ ((v1 - v1 / 2 * 2) = 0 → (((nI (E + 1)) ≤ (v1 / 2) → post 0 S) ∧ (¬ (nI (E + 1)) ≤ (v1 / 2) → wp_X_isUsed W E [v1 / 2] S (fun r2 S1 => ((r2 = 0 → post 0 S1) ∧ (¬ r2 = 0 → post 1 S1)))))))))
  | _, _ => False
def wp_X_isObject (W E : Nat) (xs : List Int32) (S : GS) (post : Int32 → GS → Prop) : Prop := ∀ V : Nat → GS → List Int32 → Prop, (∀ h S xs, sp_X_isObject W E post V h S xs → V h S xs) → V 0 S xs
def vh_X_isObject (o : Nat → Nat) (G : GS → Nat → List (Nat × Value) → List Value → Prop) (h : Nat) (S : GS) (xs : List Int32) : Prop := match h, xs with
  | 0, [v1] => G S 0 [(0, .ref (o 0)), (1, .int v1)] []
  | _, _ => True
set_option maxHeartbeats 4000000 in
set_option maxRecDepth 100000 in
theorem wk_X_isObject_0 {l : Launch} {dC : Nat → ClassId} {dI : Nat → Nat → Nat} {cI cZ : ClassId} {o : Nat → Nat} {W E : Nat} {p : Program} {e : Env} {s : State} {m : MethodId} {args : Array Value} {below : List Frame} {meth : Method} {c : Code} {A : Nat → Prop} {post : Int32 → GS → Prop} (C : GC p s m args c cX_isObject 2 RX wsA (dC, dI) gx_cl [(cI, .int), (cZ, .boolean)] A) (hr : meth.sig.returnType = (some .boolean)) (hlocks : meth.locks = false) (S : GS) (v1 : Int32) (hs : sp_X_isObject W E post (vh_X_isObject o (GV p l e { frames := 1, cells := 0, slots := 0, locals := 21 } s m args below meth c (MQ below (va_Qi post (GB (xw cI cZ o W E) (dC, dI) gx_cl [(cI, .int), (cZ, .boolean)] A) A) args s 0 0 A) 2 (dC, dI) gx_cl A (xw cI cZ o W E))) 0 S [v1]) : GV p l e { frames := 1, cells := 0, slots := 0, locals := 21 } s m args below meth c (MQ below (va_Qi post (GB (xw cI cZ o W E) (dC, dI) gx_cl [(cI, .int), (cZ, .boolean)] A) A) args s 0 0 A) 2 (dC, dI) gx_cl A (xw cI cZ o W E) S 0 [(0, .ref (o 0)), (1, .int v1)] [] := by
  refine gx_iload_n C dX_isObject_0 1 rfl rfl ?_
  obtain ⟨ht, hf⟩ := hs
  refine gx_if_le C dX_isObject_1 35 rfl (fun hc => ?_) (fun hc => ?_)
  · have hs := ht hc
    refine gx_iconst (v := 0) C dX_isObject_35 (by decide) ?_
    exact gx_zret C hr hlocks dX_isObject_36 hs rfl
  · have hs := hf hc
    refine gx_iload_n C dX_isObject_4 1 rfl rfl ?_
    refine gx_iconst (v := 2) C dX_isObject_5 (by decide) ?_
    refine gx_irem C dX_isObject_6 (by decide) ?_
    obtain ⟨ht, hf⟩ := hs
    refine gx_if_ne C dX_isObject_7 35 rfl (fun hc => ?_) (fun hc => ?_)
    · have hs := ht hc
      refine gx_iconst (v := 0) C dX_isObject_35 (by decide) ?_
      exact gx_zret C hr hlocks dX_isObject_36 hs rfl
    · have hs := hf hc
      refine gx_iload_n C dX_isObject_10 1 rfl rfl ?_
      refine gx_iconst (v := 2) C dX_isObject_11 (by decide) ?_
      refine gx_idiv C dX_isObject_12 (by decide) ?_
      refine gx_aload_n C dX_isObject_13 0 rfl rfl ?_
      refine gx_get C xo_this hi_X 1 (by decide) fl_X_22 rfl dX_isObject_14 ?_
      refine gx_alen C xa_addresses dX_isObject_17 ?_
      obtain ⟨ht, hf⟩ := hs
      refine gx_icmp_ge C dX_isObject_18 35 rfl (fun hc => ?_) (fun hc => ?_)
      · have hs := ht hc
        refine gx_iconst (v := 0) C dX_isObject_35 (by decide) ?_
        exact gx_zret C hr hlocks dX_isObject_36 hs rfl
      · have hs := hf hc
        refine gx_aload_n C dX_isObject_21 0 rfl rfl ?_
        refine gx_iload_n C dX_isObject_22 1 rfl rfl ?_
        refine gx_iconst (v := 2) C dX_isObject_23 (by decide) ?_
        refine gx_idiv C dX_isObject_24 (by decide) ?_
        refine gx_calli (As := [.int (v1 / 2)]) (rest := []) C (mt_X_isUsed l dC dI cI cZ o W E _ _ _ hs) (gx_cwV C 1 ln_X_120 im_X_isUsed se_X_isUsed in_CountedObjects cd_X_isUsed rfl rfl (by decide +kernel) ⟨Nat.le_of_ble_eq_true rfl, Nat.le_of_ble_eq_true rfl⟩) xo_this rfl (Nat.le_of_ble_eq_true rfl) dX_isObject_25 (fun S1 => xw_ad _ S1) rfl (fun r2 S1 hs => ?_)
        obtain ⟨ht, hf⟩ := hs
        refine gx_if_eq C dX_isObject_28 35 rfl (fun hc => ?_) (fun hc => ?_)
        · have hs := ht hc
          refine gx_iconst (v := 0) C dX_isObject_35 (by decide) ?_
          exact gx_zret C hr hlocks dX_isObject_36 hs rfl
        · have hs := hf hc
          refine gx_iconst (v := 1) C dX_isObject_31 (by decide) ?_
          refine gx_goto C dX_isObject_32 36 rfl ?_
          exact gx_zret C hr hlocks dX_isObject_36 hs rfl
set_option maxHeartbeats 4000000 in
set_option maxRecDepth 100000 in
theorem mt_X_isObject (l : Launch) (dC : Nat → ClassId) (dI : Nat → Nat → Nat) (cI cZ : ClassId) (o : Nat → Nat) (W E : Nat) (v1 : Int32) (S : GS) (post : Int32 → GS → Prop) (h : wp_X_isObject W E [v1] S post) : MetI l yX_isObject (Cond.code yX_isObject cX_isObject 2 (some .boolean) :: wsA) ({ frames := 1, cells := 0, slots := 0, locals := 21 }) (dC, dI) gx_cl [(cI, .int), (cZ, .boolean)] (xw cI cZ o W E) [.ref (o 0), .int v1] S post := by
  refine gx_metI (by decide) wsA_good (Nat.le_of_ble_eq_true rfl) ?_
  intro p e s m args below meth c A C hr hlocks
  refine h (vh_X_isObject o (GV p l e { frames := 1, cells := 0, slots := 0, locals := 21 } s m args below meth c (MQ below (va_Qi post (GB (xw cI cZ o W E) (dC, dI) gx_cl [(cI, .int), (cZ, .boolean)] A) A) args s 0 0 A) 2 (dC, dI) gx_cl A (xw cI cZ o W E))) (fun h S xs hs => ?_)
  unfold sp_X_isObject at hs
  split at hs
  · exact wk_X_isObject_0 C hr hlocks _ _ hs
  · exact hs.elim
/-- CountedObjects.isValue(I)Z: a step from head to head -/
def sp_X_isValue (W E : Nat) (post : Int32 → GS → Prop) (V : Nat → GS → List Int32 → Prop) (h : Nat) (S : GS) (xs : List Int32) : Prop := match h, xs with
  | 0, [v1] => ((v1 = 0 → post 1 S) ∧ (¬ v1 = 0 → ((¬ (v1 - v1 / 2 * 2) = 0 → post 1 S) ∧ ((v1 - v1 / 2 * 2) = 0 → wp_X_isObject W E [v1] S (fun r2 S1 => ((r2 = 0 → post 0 S1) ∧ (¬ r2 = 0 → post 1 S1)))))))
  | _, _ => False
def wp_X_isValue (W E : Nat) (xs : List Int32) (S : GS) (post : Int32 → GS → Prop) : Prop := ∀ V : Nat → GS → List Int32 → Prop, (∀ h S xs, sp_X_isValue W E post V h S xs → V h S xs) → V 0 S xs
def vh_X_isValue (o : Nat → Nat) (G : GS → Nat → List (Nat × Value) → List Value → Prop) (h : Nat) (S : GS) (xs : List Int32) : Prop := match h, xs with
  | 0, [v1] => G S 0 [(0, .ref (o 0)), (1, .int v1)] []
  | _, _ => True
set_option maxHeartbeats 4000000 in
set_option maxRecDepth 100000 in
theorem wk_X_isValue_0 {l : Launch} {dC : Nat → ClassId} {dI : Nat → Nat → Nat} {cI cZ : ClassId} {o : Nat → Nat} {W E : Nat} {p : Program} {e : Env} {s : State} {m : MethodId} {args : Array Value} {below : List Frame} {meth : Method} {c : Code} {A : Nat → Prop} {post : Int32 → GS → Prop} (C : GC p s m args c cX_isValue 2 RX wsA (dC, dI) gx_cl [(cI, .int), (cZ, .boolean)] A) (hr : meth.sig.returnType = (some .boolean)) (hlocks : meth.locks = false) (S : GS) (v1 : Int32) (hs : sp_X_isValue W E post (vh_X_isValue o (GV p l e { frames := 2, cells := 0, slots := 0, locals := 42 } s m args below meth c (MQ below (va_Qi post (GB (xw cI cZ o W E) (dC, dI) gx_cl [(cI, .int), (cZ, .boolean)] A) A) args s 0 0 A) 2 (dC, dI) gx_cl A (xw cI cZ o W E))) 0 S [v1]) : GV p l e { frames := 2, cells := 0, slots := 0, locals := 42 } s m args below meth c (MQ below (va_Qi post (GB (xw cI cZ o W E) (dC, dI) gx_cl [(cI, .int), (cZ, .boolean)] A) A) args s 0 0 A) 2 (dC, dI) gx_cl A (xw cI cZ o W E) S 0 [(0, .ref (o 0)), (1, .int v1)] [] := by
  refine gx_iload_n C dX_isValue_0 1 rfl rfl ?_
  obtain ⟨ht, hf⟩ := hs
  refine gx_if_eq C dX_isValue_1 18 rfl (fun hc => ?_) (fun hc => ?_)
  · have hs := ht hc
    refine gx_iconst (v := 1) C dX_isValue_18 (by decide) ?_
    refine gx_goto C dX_isValue_19 23 rfl ?_
    exact gx_zret C hr hlocks dX_isValue_23 hs rfl
  · have hs := hf hc
    refine gx_iload_n C dX_isValue_4 1 rfl rfl ?_
    refine gx_iconst (v := 2) C dX_isValue_5 (by decide) ?_
    refine gx_irem C dX_isValue_6 (by decide) ?_
    obtain ⟨ht, hf⟩ := hs
    refine gx_if_ne C dX_isValue_7 18 rfl (fun hc => ?_) (fun hc => ?_)
    · have hs := ht hc
      refine gx_iconst (v := 1) C dX_isValue_18 (by decide) ?_
      refine gx_goto C dX_isValue_19 23 rfl ?_
      exact gx_zret C hr hlocks dX_isValue_23 hs rfl
    · have hs := hf hc
      refine gx_aload_n C dX_isValue_10 0 rfl rfl ?_
      refine gx_iload_n C dX_isValue_11 1 rfl rfl ?_
      refine gx_calli (As := [.int v1]) (rest := []) C (mt_X_isObject l dC dI cI cZ o W E _ _ _ hs) (gx_cwV C 1 ln_X_87 im_X_isObject se_X_isObject in_CountedObjects cd_X_isObject rfl rfl (by decide +kernel) ⟨Nat.le_of_ble_eq_true rfl, Nat.le_of_ble_eq_true rfl⟩) xo_this rfl (Nat.le_of_ble_eq_true rfl) dX_isValue_12 (fun S1 => xw_ad _ S1) rfl (fun r2 S1 hs => ?_)
      obtain ⟨ht, hf⟩ := hs
      refine gx_if_eq C dX_isValue_15 22 rfl (fun hc => ?_) (fun hc => ?_)
      · have hs := ht hc
        refine gx_iconst (v := 0) C dX_isValue_22 (by decide) ?_
        exact gx_zret C hr hlocks dX_isValue_23 hs rfl
      · have hs := hf hc
        refine gx_iconst (v := 1) C dX_isValue_18 (by decide) ?_
        refine gx_goto C dX_isValue_19 23 rfl ?_
        exact gx_zret C hr hlocks dX_isValue_23 hs rfl
set_option maxHeartbeats 4000000 in
set_option maxRecDepth 100000 in
theorem mt_X_isValue (l : Launch) (dC : Nat → ClassId) (dI : Nat → Nat → Nat) (cI cZ : ClassId) (o : Nat → Nat) (W E : Nat) (v1 : Int32) (S : GS) (post : Int32 → GS → Prop) (h : wp_X_isValue W E [v1] S post) : MetI l yX_isValue (Cond.code yX_isValue cX_isValue 2 (some .boolean) :: wsA) ({ frames := 2, cells := 0, slots := 0, locals := 42 }) (dC, dI) gx_cl [(cI, .int), (cZ, .boolean)] (xw cI cZ o W E) [.ref (o 0), .int v1] S post := by
  refine gx_metI (by decide) wsA_good (Nat.le_of_ble_eq_true rfl) ?_
  intro p e s m args below meth c A C hr hlocks
  refine h (vh_X_isValue o (GV p l e { frames := 2, cells := 0, slots := 0, locals := 42 } s m args below meth c (MQ below (va_Qi post (GB (xw cI cZ o W E) (dC, dI) gx_cl [(cI, .int), (cZ, .boolean)] A) A) args s 0 0 A) 2 (dC, dI) gx_cl A (xw cI cZ o W E))) (fun h S xs hs => ?_)
  unfold sp_X_isValue at hs
  split at hs
  · exact wk_X_isValue_0 C hr hlocks _ _ hs
  · exact hs.elim
/-- CountedObjects.hasField(II)Z: a step from head to head -/
def sp_X_hasField (W E : Nat) (post : Int32 → GS → Prop) (V : Nat → GS → List Int32 → Prop) (h : Nat) (S : GS) (xs : List Int32) : Prop := match h, xs with
  | 0, [v1, v2] => ((v2 < 0 → post 0 S) ∧ (¬ v2 < 0 → (vp_in (v1 / 2) (E + 1) ∧ (vp_in (S 1 (v1 / 2).toNatClampNeg) W ∧ (((S 0 (S 1 (v1 / 2).toNatClampNeg).toNatClampNeg) ≤ v2 → post 0 S) ∧ (¬ (S 0 (S 1 (v1 / 2).toNatClampNeg).toNatClampNeg) ≤ v2 → post 1 S))))))
  | _, _ => False
def wp_X_hasField (W E : Nat) (xs : List Int32) (S : GS) (post : Int32 → GS → Prop) : Prop := ∀ V : Nat → GS → List Int32 → Prop, (∀ h S xs, sp_X_hasField W E post V h S xs → V h S xs) → V 0 S xs
def vh_X_hasField (o : Nat → Nat) (G : GS → Nat → List (Nat × Value) → List Value → Prop) (h : Nat) (S : GS) (xs : List Int32) : Prop := match h, xs with
  | 0, [v1, v2] => G S 0 [(0, .ref (o 0)), (1, .int v1), (2, .int v2)] []
  | _, _ => True
set_option maxHeartbeats 4000000 in
set_option maxRecDepth 100000 in
theorem wk_X_hasField_0 {l : Launch} {dC : Nat → ClassId} {dI : Nat → Nat → Nat} {cI cZ : ClassId} {o : Nat → Nat} {W E : Nat} {p : Program} {e : Env} {s : State} {m : MethodId} {args : Array Value} {below : List Frame} {meth : Method} {c : Code} {A : Nat → Prop} {post : Int32 → GS → Prop} (C : GC p s m args c cX_hasField 3 RX wsA (dC, dI) gx_cl [(cI, .int), (cZ, .boolean)] A) (hr : meth.sig.returnType = (some .boolean)) (hlocks : meth.locks = false) (S : GS) (v1 : Int32) (v2 : Int32) (hs : sp_X_hasField W E post (vh_X_hasField o (GV p l e { frames := 0, cells := 0, slots := 0, locals := 0 } s m args below meth c (MQ below (va_Qi post (GB (xw cI cZ o W E) (dC, dI) gx_cl [(cI, .int), (cZ, .boolean)] A) A) args s 0 0 A) 3 (dC, dI) gx_cl A (xw cI cZ o W E))) 0 S [v1, v2]) : GV p l e { frames := 0, cells := 0, slots := 0, locals := 0 } s m args below meth c (MQ below (va_Qi post (GB (xw cI cZ o W E) (dC, dI) gx_cl [(cI, .int), (cZ, .boolean)] A) A) args s 0 0 A) 3 (dC, dI) gx_cl A (xw cI cZ o W E) S 0 [(0, .ref (o 0)), (1, .int v1), (2, .int v2)] [] := by
  refine gx_iload_n C dX_hasField_0 2 rfl rfl ?_
  obtain ⟨ht, hf⟩ := hs
  refine gx_if_lt C dX_hasField_1 25 rfl (fun hc => ?_) (fun hc => ?_)
  · have hs := ht hc
    refine gx_iconst (v := 0) C dX_hasField_25 (by decide) ?_
    exact gx_zret C hr hlocks dX_hasField_26 hs rfl
  · have hs := hf hc
    refine gx_iload_n C dX_hasField_4 2 rfl rfl ?_
    refine gx_aload_n C dX_hasField_5 0 rfl rfl ?_
    refine gx_get C xo_this hi_X 0 (by decide) fl_X_18 rfl dX_hasField_6 ?_
    refine gx_aload_n C dX_hasField_9 0 rfl rfl ?_
    refine gx_get C xo_this hi_X 1 (by decide) fl_X_22 rfl dX_hasField_10 ?_
    refine gx_iload_n C dX_hasField_13 1 rfl rfl ?_
    refine gx_iconst (v := 2) C dX_hasField_14 (by decide) ?_
    refine gx_idiv C dX_hasField_15 (by decide) ?_
    obtain ⟨hin, hs⟩ := hs
    refine gx_iald C xa_addresses hin dX_hasField_16 ?_
    obtain ⟨hin, hs⟩ := hs
    refine gx_iald C xa_words hin dX_hasField_17 ?_
    obtain ⟨ht, hf⟩ := hs
    refine gx_icmp_ge C dX_hasField_18 25 rfl (fun hc => ?_) (fun hc => ?_)
    · have hs := ht hc
      refine gx_iconst (v := 0) C dX_hasField_25 (by decide) ?_
      exact gx_zret C hr hlocks dX_hasField_26 hs rfl
    · have hs := hf hc
      refine gx_iconst (v := 1) C dX_hasField_21 (by decide) ?_
      refine gx_goto C dX_hasField_22 26 rfl ?_
      exact gx_zret C hr hlocks dX_hasField_26 hs rfl
set_option maxHeartbeats 4000000 in
set_option maxRecDepth 100000 in
theorem mt_X_hasField (l : Launch) (dC : Nat → ClassId) (dI : Nat → Nat → Nat) (cI cZ : ClassId) (o : Nat → Nat) (W E : Nat) (v1 : Int32) (v2 : Int32) (S : GS) (post : Int32 → GS → Prop) (h : wp_X_hasField W E [v1, v2] S post) : MetI l yX_hasField (Cond.code yX_hasField cX_hasField 3 (some .boolean) :: wsA) ({ frames := 0, cells := 0, slots := 0, locals := 0 }) (dC, dI) gx_cl [(cI, .int), (cZ, .boolean)] (xw cI cZ o W E) [.ref (o 0), .int v1, .int v2] S post := by
  refine gx_metI (by decide) wsA_good (Nat.le_of_ble_eq_true rfl) ?_
  intro p e s m args below meth c A C hr hlocks
  refine h (vh_X_hasField o (GV p l e { frames := 0, cells := 0, slots := 0, locals := 0 } s m args below meth c (MQ below (va_Qi post (GB (xw cI cZ o W E) (dC, dI) gx_cl [(cI, .int), (cZ, .boolean)] A) A) args s 0 0 A) 3 (dC, dI) gx_cl A (xw cI cZ o W E))) (fun h S xs hs => ?_)
  unfold sp_X_hasField at hs
  split at hs
  · exact wk_X_hasField_0 C hr hlocks _ _ _ hs
  · exact hs.elim
/-- CountedObjects.fieldWord(II)I: a step from head to head -/
def sp_X_fieldWord (W E : Nat) (post : Int32 → GS → Prop) (V : Nat → GS → List Int32 → Prop) (h : Nat) (S : GS) (xs : List Int32) : Prop := match h, xs with
  | 0, [v1, v2] => (vp_in (v1 / 2) (E + 1) ∧ post (((S 1 (v1 / 2).toNatClampNeg) + 2) + v2) S)
  | _, _ => False
def wp_X_fieldWord (W E : Nat) (xs : List Int32) (S : GS) (post : Int32 → GS → Prop) : Prop := ∀ V : Nat → GS → List Int32 → Prop, (∀ h S xs, sp_X_fieldWord W E post V h S xs → V h S xs) → V 0 S xs
def vh_X_fieldWord (o : Nat → Nat) (G : GS → Nat → List (Nat × Value) → List Value → Prop) (h : Nat) (S : GS) (xs : List Int32) : Prop := match h, xs with
  | 0, [v1, v2] => G S 0 [(0, .ref (o 0)), (1, .int v1), (2, .int v2)] []
  | _, _ => True
set_option maxHeartbeats 4000000 in
set_option maxRecDepth 100000 in
theorem wk_X_fieldWord_0 {l : Launch} {dC : Nat → ClassId} {dI : Nat → Nat → Nat} {cI cZ : ClassId} {o : Nat → Nat} {W E : Nat} {p : Program} {e : Env} {s : State} {m : MethodId} {args : Array Value} {below : List Frame} {meth : Method} {c : Code} {A : Nat → Prop} {post : Int32 → GS → Prop} (C : GC p s m args c cX_fieldWord 3 RX wsA (dC, dI) gx_cl [(cI, .int), (cZ, .boolean)] A) (hr : meth.sig.returnType = (some .int)) (hlocks : meth.locks = false) (S : GS) (v1 : Int32) (v2 : Int32) (hs : sp_X_fieldWord W E post (vh_X_fieldWord o (GV p l e { frames := 0, cells := 0, slots := 0, locals := 0 } s m args below meth c (MQ below (va_Qi post (GB (xw cI cZ o W E) (dC, dI) gx_cl [(cI, .int), (cZ, .boolean)] A) A) args s 0 0 A) 3 (dC, dI) gx_cl A (xw cI cZ o W E))) 0 S [v1, v2]) : GV p l e { frames := 0, cells := 0, slots := 0, locals := 0 } s m args below meth c (MQ below (va_Qi post (GB (xw cI cZ o W E) (dC, dI) gx_cl [(cI, .int), (cZ, .boolean)] A) A) args s 0 0 A) 3 (dC, dI) gx_cl A (xw cI cZ o W E) S 0 [(0, .ref (o 0)), (1, .int v1), (2, .int v2)] [] := by
  refine gx_aload_n C dX_fieldWord_0 0 rfl rfl ?_
  refine gx_get C xo_this hi_X 1 (by decide) fl_X_22 rfl dX_fieldWord_1 ?_
  refine gx_iload_n C dX_fieldWord_4 1 rfl rfl ?_
  refine gx_iconst (v := 2) C dX_fieldWord_5 (by decide) ?_
  refine gx_idiv C dX_fieldWord_6 (by decide) ?_
  obtain ⟨hin, hs⟩ := hs
  refine gx_iald C xa_addresses hin dX_fieldWord_7 ?_
  refine gx_iconst (v := 2) C dX_fieldWord_8 (by decide) ?_
  refine gx_iadd C dX_fieldWord_9 ?_
  refine gx_iload_n C dX_fieldWord_10 2 rfl rfl ?_
  refine gx_iadd C dX_fieldWord_11 ?_
  exact gx_iret C hr hlocks dX_fieldWord_12 hs
set_option maxHeartbeats 4000000 in
set_option maxRecDepth 100000 in
theorem mt_X_fieldWord (l : Launch) (dC : Nat → ClassId) (dI : Nat → Nat → Nat) (cI cZ : ClassId) (o : Nat → Nat) (W E : Nat) (v1 : Int32) (v2 : Int32) (S : GS) (post : Int32 → GS → Prop) (h : wp_X_fieldWord W E [v1, v2] S post) : MetI l yX_fieldWord (Cond.code yX_fieldWord cX_fieldWord 3 (some .int) :: wsA) ({ frames := 0, cells := 0, slots := 0, locals := 0 }) (dC, dI) gx_cl [(cI, .int), (cZ, .boolean)] (xw cI cZ o W E) [.ref (o 0), .int v1, .int v2] S post := by
  refine gx_metI (by decide) wsA_good (Nat.le_of_ble_eq_true rfl) ?_
  intro p e s m args below meth c A C hr hlocks
  refine h (vh_X_fieldWord o (GV p l e { frames := 0, cells := 0, slots := 0, locals := 0 } s m args below meth c (MQ below (va_Qi post (GB (xw cI cZ o W E) (dC, dI) gx_cl [(cI, .int), (cZ, .boolean)] A) A) args s 0 0 A) 3 (dC, dI) gx_cl A (xw cI cZ o W E))) (fun h S xs hs => ?_)
  unfold sp_X_fieldWord at hs
  split at hs
  · exact wk_X_fieldWord_0 C hr hlocks _ _ _ hs
  · exact hs.elim
/-- CountedObjects.wordsOf(I)I: a step from head to head -/
def sp_X_wordsOf (W E : Nat) (post : Int32 → GS → Prop) (V : Nat → GS → List Int32 → Prop) (h : Nat) (S : GS) (xs : List Int32) : Prop := match h, xs with
  | 0, [v1] => (vp_in v1 (E + 1) ∧ (vp_in (S 1 (v1).toNatClampNeg) W ∧ post ((S 0 (S 1 (v1).toNatClampNeg).toNatClampNeg) + 2) S))
  | _, _ => False
def wp_X_wordsOf (W E : Nat) (xs : List Int32) (S : GS) (post : Int32 → GS → Prop) : Prop := ∀ V : Nat → GS → List Int32 → Prop, (∀ h S xs, sp_X_wordsOf W E post V h S xs → V h S xs) → V 0 S xs
def vh_X_wordsOf (o : Nat → Nat) (G : GS → Nat → List (Nat × Value) → List Value → Prop) (h : Nat) (S : GS) (xs : List Int32) : Prop := match h, xs with
  | 0, [v1] => G S 0 [(0, .ref (o 0)), (1, .int v1)] []
  | _, _ => True
set_option maxHeartbeats 4000000 in
set_option maxRecDepth 100000 in
theorem wk_X_wordsOf_0 {l : Launch} {dC : Nat → ClassId} {dI : Nat → Nat → Nat} {cI cZ : ClassId} {o : Nat → Nat} {W E : Nat} {p : Program} {e : Env} {s : State} {m : MethodId} {args : Array Value} {below : List Frame} {meth : Method} {c : Code} {A : Nat → Prop} {post : Int32 → GS → Prop} (C : GC p s m args c cX_wordsOf 2 RX wsA (dC, dI) gx_cl [(cI, .int), (cZ, .boolean)] A) (hr : meth.sig.returnType = (some .int)) (hlocks : meth.locks = false) (S : GS) (v1 : Int32) (hs : sp_X_wordsOf W E post (vh_X_wordsOf o (GV p l e { frames := 0, cells := 0, slots := 0, locals := 0 } s m args below meth c (MQ below (va_Qi post (GB (xw cI cZ o W E) (dC, dI) gx_cl [(cI, .int), (cZ, .boolean)] A) A) args s 0 0 A) 2 (dC, dI) gx_cl A (xw cI cZ o W E))) 0 S [v1]) : GV p l e { frames := 0, cells := 0, slots := 0, locals := 0 } s m args below meth c (MQ below (va_Qi post (GB (xw cI cZ o W E) (dC, dI) gx_cl [(cI, .int), (cZ, .boolean)] A) A) args s 0 0 A) 2 (dC, dI) gx_cl A (xw cI cZ o W E) S 0 [(0, .ref (o 0)), (1, .int v1)] [] := by
  refine gx_aload_n C dX_wordsOf_0 0 rfl rfl ?_
  refine gx_get C xo_this hi_X 0 (by decide) fl_X_18 rfl dX_wordsOf_1 ?_
  refine gx_aload_n C dX_wordsOf_4 0 rfl rfl ?_
  refine gx_get C xo_this hi_X 1 (by decide) fl_X_22 rfl dX_wordsOf_5 ?_
  refine gx_iload_n C dX_wordsOf_8 1 rfl rfl ?_
  obtain ⟨hin, hs⟩ := hs
  refine gx_iald C xa_addresses hin dX_wordsOf_9 ?_
  obtain ⟨hin, hs⟩ := hs
  refine gx_iald C xa_words hin dX_wordsOf_10 ?_
  refine gx_iconst (v := 2) C dX_wordsOf_11 (by decide) ?_
  refine gx_iadd C dX_wordsOf_12 ?_
  exact gx_iret C hr hlocks dX_wordsOf_13 hs
set_option maxHeartbeats 4000000 in
set_option maxRecDepth 100000 in
theorem mt_X_wordsOf (l : Launch) (dC : Nat → ClassId) (dI : Nat → Nat → Nat) (cI cZ : ClassId) (o : Nat → Nat) (W E : Nat) (v1 : Int32) (S : GS) (post : Int32 → GS → Prop) (h : wp_X_wordsOf W E [v1] S post) : MetI l yX_wordsOf (Cond.code yX_wordsOf cX_wordsOf 2 (some .int) :: wsA) ({ frames := 0, cells := 0, slots := 0, locals := 0 }) (dC, dI) gx_cl [(cI, .int), (cZ, .boolean)] (xw cI cZ o W E) [.ref (o 0), .int v1] S post := by
  refine gx_metI (by decide) wsA_good (Nat.le_of_ble_eq_true rfl) ?_
  intro p e s m args below meth c A C hr hlocks
  refine h (vh_X_wordsOf o (GV p l e { frames := 0, cells := 0, slots := 0, locals := 0 } s m args below meth c (MQ below (va_Qi post (GB (xw cI cZ o W E) (dC, dI) gx_cl [(cI, .int), (cZ, .boolean)] A) A) args s 0 0 A) 2 (dC, dI) gx_cl A (xw cI cZ o W E))) (fun h S xs hs => ?_)
  unfold sp_X_wordsOf at hs
  split at hs
  · exact wk_X_wordsOf_0 C hr hlocks _ _ hs
  · exact hs.elim
/-- CountedObjects.leastFreeEntry()I: a step from head to head -/
def sp_X_leastFreeEntry (W E : Nat) (post : Int32 → GS → Prop) (V : Nat → GS → List Int32 → Prop) (h : Nat) (S : GS) (xs : List Int32) : Prop := match h, xs with
  | 0, [] => ∀ y1 : Int32, y1 = 1 → V 2 S [y1]
  | 2, [v1] => (((nI (E + 1)) ≤ v1 → post 0 S) ∧ (¬ (nI (E + 1)) ≤ v1 → wp_X_isUsed W E [v1] S (fun r2 S1 => ((¬ r2 = 0 → (∀ y3 : Int32, y3 = v1 + 1 → V 2 S1 [y3])) ∧ (r2 = 0 → post v1 S1)))))
  | _, _ => False
def wp_X_leastFreeEntry (W E : Nat) (xs : List Int32) (S : GS) (post : Int32 → GS → Prop) : Prop := ∀ V : Nat → GS → List Int32 → Prop, (∀ h S xs, sp_X_leastFreeEntry W E post V h S xs → V h S xs) → V 0 S xs
def vh_X_leastFreeEntry (o : Nat → Nat) (G : GS → Nat → List (Nat × Value) → List Value → Prop) (h : Nat) (S : GS) (xs : List Int32) : Prop := match h, xs with
  | 0, [] => G S 0 [(0, .ref (o 0))] []
  | 2, [v1] => G S 2 [(0, .ref (o 0)), (1, .int v1)] []
  | _, _ => True
set_option maxHeartbeats 4000000 in
set_option maxRecDepth 100000 in
theorem wk_X_leastFreeEntry_0 {l : Launch} {dC : Nat → ClassId} {dI : Nat → Nat → Nat} {cI cZ : ClassId} {o : Nat → Nat} {W E : Nat} {p : Program} {e : Env} {s : State} {m : MethodId} {args : Array Value} {below : List Frame} {meth : Method} {c : Code} {A : Nat → Prop} {post : Int32 → GS → Prop} (C : GC p s m args c cX_leastFreeEntry 2 RX wsA (dC, dI) gx_cl [(cI, .int), (cZ, .boolean)] A) (hr : meth.sig.returnType = (some .int)) (hlocks : meth.locks = false) (S : GS) (hs : sp_X_leastFreeEntry W E post (vh_X_leastFreeEntry o (GV p l e { frames := 1, cells := 0, slots := 0, locals := 21 } s m args below meth c (MQ below (va_Qi post (GB (xw cI cZ o W E) (dC, dI) gx_cl [(cI, .int), (cZ, .boolean)] A) A) args s 0 0 A) 2 (dC, dI) gx_cl A (xw cI cZ o W E))) 0 S []) : GV p l e { frames := 1, cells := 0, slots := 0, locals := 21 } s m args below meth c (MQ below (va_Qi post (GB (xw cI cZ o W E) (dC, dI) gx_cl [(cI, .int), (cZ, .boolean)] A) A) args s 0 0 A) 2 (dC, dI) gx_cl A (xw cI cZ o W E) S 0 [(0, .ref (o 0))] [] := by
  refine gx_iconst (v := 1) C dX_leastFreeEntry_0 (by decide) ?_
  refine gx_top (fun y1 ey1 => ?_)
  replace hs := hs y1 ey1
  refine gx_istore_n (L' := [(1, .int y1), (0, .ref (o 0))]) C dX_leastFreeEntry_1 rfl (by decide) rfl ?_
  exact gx_sub [1, 0] rfl hs
set_option maxHeartbeats 4000000 in
set_option maxRecDepth 100000 in
theorem wk_X_leastFreeEntry_2 {l : Launch} {dC : Nat → ClassId} {dI : Nat → Nat → Nat} {cI cZ : ClassId} {o : Nat → Nat} {W E : Nat} {p : Program} {e : Env} {s : State} {m : MethodId} {args : Array Value} {below : List Frame} {meth : Method} {c : Code} {A : Nat → Prop} {post : Int32 → GS → Prop} (C : GC p s m args c cX_leastFreeEntry 2 RX wsA (dC, dI) gx_cl [(cI, .int), (cZ, .boolean)] A) (hr : meth.sig.returnType = (some .int)) (hlocks : meth.locks = false) (S : GS) (v1 : Int32) (hs : sp_X_leastFreeEntry W E post (vh_X_leastFreeEntry o (GV p l e { frames := 1, cells := 0, slots := 0, locals := 21 } s m args below meth c (MQ below (va_Qi post (GB (xw cI cZ o W E) (dC, dI) gx_cl [(cI, .int), (cZ, .boolean)] A) A) args s 0 0 A) 2 (dC, dI) gx_cl A (xw cI cZ o W E))) 2 S [v1]) : GV p l e { frames := 1, cells := 0, slots := 0, locals := 21 } s m args below meth c (MQ below (va_Qi post (GB (xw cI cZ o W E) (dC, dI) gx_cl [(cI, .int), (cZ, .boolean)] A) A) args s 0 0 A) 2 (dC, dI) gx_cl A (xw cI cZ o W E) S 2 [(0, .ref (o 0)), (1, .int v1)] [] := by
  refine gx_iload_n C dX_leastFreeEntry_2 1 rfl rfl ?_
  refine gx_aload_n C dX_leastFreeEntry_3 0 rfl rfl ?_
  refine gx_get C xo_this hi_X 1 (by decide) fl_X_22 rfl dX_leastFreeEntry_4 ?_
  refine gx_alen C xa_addresses dX_leastFreeEntry_7 ?_
  obtain ⟨ht, hf⟩ := hs
  refine gx_icmp_ge C dX_leastFreeEntry_8 27 rfl (fun hc => ?_) (fun hc => ?_)
  · have hs := ht hc
    refine gx_iconst (v := 0) C dX_leastFreeEntry_27 (by decide) ?_
    exact gx_iret C hr hlocks dX_leastFreeEntry_28 hs
  · have hs := hf hc
    refine gx_aload_n C dX_leastFreeEntry_11 0 rfl rfl ?_
    refine gx_iload_n C dX_leastFreeEntry_12 1 rfl rfl ?_
    refine gx_calli (As := [.int v1]) (rest := []) C (mt_X_isUsed l dC dI cI cZ o W E _ _ _ hs) (gx_cwV C 1 ln_X_120 im_X_isUsed se_X_isUsed in_CountedObjects cd_X_isUsed rfl rfl (by decide +kernel) ⟨Nat.le_of_ble_eq_true rfl, Nat.le_of_ble_eq_true rfl⟩) xo_this rfl (Nat.le_of_ble_eq_true rfl) dX_leastFreeEntry_13 (fun S1 => xw_ad _ S1) rfl (fun r2 S1 hs => ?_)
    obtain ⟨ht, hf⟩ := hs
    refine gx_if_ne C dX_leastFreeEntry_16 21 rfl (fun hc => ?_) (fun hc => ?_)
    · have hs := ht hc
      refine gx_iinc (v0 := 1) (f := fun v => [(1, .int v), (0, .ref (o 0))]) C dX_leastFreeEntry_21 1 rfl (by decide) (by decide) (fun _ => rfl) (fun y3 ey3 => ?_)
      replace hs := hs y3 ey3
      refine gx_goto C dX_leastFreeEntry_24 2 rfl ?_
      exact gx_sub [1, 0] rfl hs
    · have hs := hf hc
      refine gx_iload_n C dX_leastFreeEntry_19 1 rfl rfl ?_
      exact gx_iret C hr hlocks dX_leastFreeEntry_20 hs
set_option maxHeartbeats 4000000 in
set_option maxRecDepth 100000 in
theorem mt_X_leastFreeEntry (l : Launch) (dC : Nat → ClassId) (dI : Nat → Nat → Nat) (cI cZ : ClassId) (o : Nat → Nat) (W E : Nat) (S : GS) (post : Int32 → GS → Prop) (h : wp_X_leastFreeEntry W E [] S post) : MetI l yX_leastFreeEntry (Cond.code yX_leastFreeEntry cX_leastFreeEntry 2 (some .int) :: wsA) ({ frames := 1, cells := 0, slots := 0, locals := 21 }) (dC, dI) gx_cl [(cI, .int), (cZ, .boolean)] (xw cI cZ o W E) [.ref (o 0)] S post := by
  refine gx_metI (by decide) wsA_good (Nat.le_of_ble_eq_true rfl) ?_
  intro p e s m args below meth c A C hr hlocks
  refine h (vh_X_leastFreeEntry o (GV p l e { frames := 1, cells := 0, slots := 0, locals := 21 } s m args below meth c (MQ below (va_Qi post (GB (xw cI cZ o W E) (dC, dI) gx_cl [(cI, .int), (cZ, .boolean)] A) A) args s 0 0 A) 2 (dC, dI) gx_cl A (xw cI cZ o W E))) (fun h S xs hs => ?_)
  unfold sp_X_leastFreeEntry at hs
  split at hs
  · exact wk_X_leastFreeEntry_0 C hr hlocks _ hs
  · exact wk_X_leastFreeEntry_2 C hr hlocks _ _ hs
  · exact hs.elim
/-- CountedObjects.addReference(I)V: a step from head to head -/
def sp_X_addReference (W E : Nat) (post : GS → Prop) (V : Nat → GS → List Int32 → Prop) (h : Nat) (S : GS) (xs : List Int32) : Prop := match h, xs with
  | 0, [v1] => wp_X_isObject W E [v1] S (fun r2 S1 => ((r2 = 0 → post S1) ∧ (¬ r2 = 0 → (vp_in (v1 / 2) (E + 1) ∧ ((7 ≤ (S1 2 (v1 / 2).toNatClampNeg) → post S1) ∧ (¬ 7 ≤ (S1 2 (v1 / 2).toNatClampNeg) → (vp_in (v1 / 2) (E + 1) ∧ (vp_in (v1 / 2) (E + 1) ∧ ∀ S3 : GS, S3 = gx_set 2 (v1 / 2).toNatClampNeg ((S1 2 (v1 / 2).toNatClampNeg) + 1) S1 → post S3))))))))
  | _, _ => False
def wp_X_addReference (W E : Nat) (xs : List Int32) (S : GS) (post : GS → Prop) : Prop := ∀ V : Nat → GS → List Int32 → Prop, (∀ h S xs, sp_X_addReference W E post V h S xs → V h S xs) → V 0 S xs
def vh_X_addReference (o : Nat → Nat) (G : GS → Nat → List (Nat × Value) → List Value → Prop) (h : Nat) (S : GS) (xs : List Int32) : Prop := match h, xs with
  | 0, [v1] => G S 0 [(0, .ref (o 0)), (1, .int v1)] []
  | _, _ => True
set_option maxHeartbeats 4000000 in
set_option maxRecDepth 100000 in
theorem wk_X_addReference_0 {l : Launch} {dC : Nat → ClassId} {dI : Nat → Nat → Nat} {cI cZ : ClassId} {o : Nat → Nat} {W E : Nat} {p : Program} {e : Env} {s : State} {m : MethodId} {args : Array Value} {below : List Frame} {meth : Method} {c : Code} {A : Nat → Prop} {post : GS → Prop} (C : GC p s m args c cX_addReference 2 RX wsA (dC, dI) gx_cl [(cI, .int), (cZ, .boolean)] A) (hr : meth.sig.returnType = none) (hlocks : meth.locks = false) (S : GS) (v1 : Int32) (hs : sp_X_addReference W E post (vh_X_addReference o (GV p l e { frames := 2, cells := 0, slots := 0, locals := 42 } s m args below meth c (MQ below (va_Qv post (GB (xw cI cZ o W E) (dC, dI) gx_cl [(cI, .int), (cZ, .boolean)] A) A) args s 0 0 A) 2 (dC, dI) gx_cl A (xw cI cZ o W E))) 0 S [v1]) : GV p l e { frames := 2, cells := 0, slots := 0, locals := 42 } s m args below meth c (MQ below (va_Qv post (GB (xw cI cZ o W E) (dC, dI) gx_cl [(cI, .int), (cZ, .boolean)] A) A) args s 0 0 A) 2 (dC, dI) gx_cl A (xw cI cZ o W E) S 0 [(0, .ref (o 0)), (1, .int v1)] [] := by
  refine gx_aload_n C dX_addReference_0 0 rfl rfl ?_
  refine gx_iload_n C dX_addReference_1 1 rfl rfl ?_
  refine gx_calli (As := [.int v1]) (rest := []) C (mt_X_isObject l dC dI cI cZ o W E _ _ _ hs) (gx_cwV C 1 ln_X_87 im_X_isObject se_X_isObject in_CountedObjects cd_X_isObject rfl rfl (by decide +kernel) ⟨Nat.le_of_ble_eq_true rfl, Nat.le_of_ble_eq_true rfl⟩) xo_this rfl (Nat.le_of_ble_eq_true rfl) dX_addReference_2 (fun S1 => xw_ad _ S1) rfl (fun r2 S1 hs => ?_)
  obtain ⟨ht, hf⟩ := hs
  refine gx_if_eq C dX_addReference_5 33 rfl (fun hc => ?_) (fun hc => ?_)
  · have hs := ht hc
    exact gx_vret C hr hlocks dX_addReference_33 hs
  · have hs := hf hc
    refine gx_aload_n C dX_addReference_8 0 rfl rfl ?_
    refine gx_get C xo_this hi_X 2 (by decide) fl_X_25 rfl dX_addReference_9 ?_
    refine gx_iload_n C dX_addReference_12 1 rfl rfl ?_
    refine gx_iconst (v := 2) C dX_addReference_13 (by decide) ?_
    refine gx_idiv C dX_addReference_14 (by decide) ?_
    obtain ⟨hin, hs⟩ := hs
    refine gx_iald C xa_counts hin dX_addReference_15 ?_
    refine gx_bipush (v := 7) C dX_addReference_16 (by decide) ?_
    obtain ⟨ht, hf⟩ := hs
    refine gx_icmp_ge C dX_addReference_18 33 rfl (fun hc => ?_) (fun hc => ?_)
    · have hs := ht hc
      exact gx_vret C hr hlocks dX_addReference_33 hs
    · have hs := hf hc
      refine gx_aload_n C dX_addReference_21 0 rfl rfl ?_
      refine gx_get C xo_this hi_X 2 (by decide) fl_X_25 rfl dX_addReference_22 ?_
      refine gx_iload_n C dX_addReference_25 1 rfl rfl ?_
      refine gx_iconst (v := 2) C dX_addReference_26 (by decide) ?_
      refine gx_idiv C dX_addReference_27 (by decide) ?_
      refine gx_dup2 C dX_addReference_28 rfl rfl ?_
      obtain ⟨hin, hs⟩ := hs
      refine gx_iald C xa_counts hin dX_addReference_29 ?_
      refine gx_iconst (v := 1) C dX_addReference_30 (by decide) ?_
      refine gx_iadd C dX_addReference_31 ?_
      obtain ⟨hin, hs⟩ := hs
      refine gx_iast C xa_counts hin dX_addReference_32 (fun S3 eS3 => ?_)
      replace hs := hs S3 eS3
      exact gx_vret C hr hlocks dX_addReference_33 hs
set_option maxHeartbeats 4000000 in
set_option maxRecDepth 100000 in
theorem mt_X_addReference (l : Launch) (dC : Nat → ClassId) (dI : Nat → Nat → Nat) (cI cZ : ClassId) (o : Nat → Nat) (W E : Nat) (v1 : Int32) (S : GS) (post : GS → Prop) (h : wp_X_addReference W E [v1] S post) : MetV l yX_addReference (Cond.code yX_addReference cX_addReference 2 none :: wsA) ({ frames := 2, cells := 0, slots := 0, locals := 42 }) (dC, dI) gx_cl [(cI, .int), (cZ, .boolean)] (xw cI cZ o W E) [.ref (o 0), .int v1] S post := by
  refine gx_metV (by decide) wsA_good (Nat.le_of_ble_eq_true rfl) ?_
  intro p e s m args below meth c A C hr hlocks
  refine h (vh_X_addReference o (GV p l e { frames := 2, cells := 0, slots := 0, locals := 42 } s m args below meth c (MQ below (va_Qv post (GB (xw cI cZ o W E) (dC, dI) gx_cl [(cI, .int), (cZ, .boolean)] A) A) args s 0 0 A) 2 (dC, dI) gx_cl A (xw cI cZ o W E))) (fun h S xs hs => ?_)
  unfold sp_X_addReference at hs
  split at hs
  · exact wk_X_addReference_0 C hr hlocks _ _ hs
  · exact hs.elim
/-- CountedObjects.makeObject(IIII)V: a step from head to head -/
def sp_X_makeObject (W E : Nat) (post : GS → Prop) (V : Nat → GS → List Int32 → Prop) (h : Nat) (S : GS) (xs : List Int32) : Prop := match h, xs with
  | 0, [v1, v2, v3, v4] => wp_X_addReference W E [v3] S (fun S1 => (vp_in v1 (E + 1) ∧ ∀ S3 : GS, S3 = gx_set 1 (v1).toNatClampNeg v2 S1 → (vp_in v1 (E + 1) ∧ ∀ S4 : GS, S4 = gx_set 2 (v1).toNatClampNeg 0 S3 → (vp_in v2 W ∧ ∀ S5 : GS, S5 = gx_set 0 (v2).toNatClampNeg v4 S4 → (vp_in (v2 + 1) W ∧ ∀ S6 : GS, S6 = gx_set 0 (v2 + 1).toNatClampNeg v3 S5 → ∀ y7 : Int32, y7 = 0 → V 39 S6 [v1, v2, v3, v4, y7])))))
  | 39, [v1, v2, v3, v4, v5] => ((v4 ≤ v5 → post S) ∧ (¬ v4 ≤ v5 → (vp_in ((v2 + 2) + v5) W ∧ ∀ S1 : GS, S1 = gx_set 0 ((v2 + 2) + v5).toNatClampNeg 0 S → (∀ y2 : Int32, y2 = v5 + 1 → V 39 S1 [v1, v2, v3, v4, y2]))))
  | _, _ => False
def wp_X_makeObject (W E : Nat) (xs : List Int32) (S : GS) (post : GS → Prop) : Prop := ∀ V : Nat → GS → List Int32 → Prop, (∀ h S xs, sp_X_makeObject W E post V h S xs → V h S xs) → V 0 S xs
def vh_X_makeObject (o : Nat → Nat) (G : GS → Nat → List (Nat × Value) → List Value → Prop) (h : Nat) (S : GS) (xs : List Int32) : Prop := match h, xs with
  | 0, [v1, v2, v3, v4] => G S 0 [(0, .ref (o 0)), (1, .int v1), (2, .int v2), (3, .int v3), (4, .int v4)] []
  | 39, [v1, v2, v3, v4, v5] => G S 39 [(0, .ref (o 0)), (1, .int v1), (2, .int v2), (3, .int v3), (4, .int v4), (5, .int v5)] []
  | _, _ => True
set_option maxHeartbeats 4000000 in
set_option maxRecDepth 100000 in
theorem wk_X_makeObject_0 {l : Launch} {dC : Nat → ClassId} {dI : Nat → Nat → Nat} {cI cZ : ClassId} {o : Nat → Nat} {W E : Nat} {p : Program} {e : Env} {s : State} {m : MethodId} {args : Array Value} {below : List Frame} {meth : Method} {c : Code} {A : Nat → Prop} {post : GS → Prop} (C : GC p s m args c cX_makeObject 6 RX wsA (dC, dI) gx_cl [(cI, .int), (cZ, .boolean)] A) (hr : meth.sig.returnType = none) (hlocks : meth.locks = false) (S : GS) (v1 : Int32) (v2 : Int32) (v3 : Int32) (v4 : Int32) (hs : sp_X_makeObject W E post (vh_X_makeObject o (GV p l e { frames := 3, cells := 0, slots := 0, locals := 63 } s m args below meth c (MQ below (va_Qv post (GB (xw cI cZ o W E) (dC, dI) gx_cl [(cI, .int), (cZ, .boolean)] A) A) args s 0 0 A) 6 (dC, dI) gx_cl A (xw cI cZ o W E))) 0 S [v1, v2, v3, v4]) : GV p l e { frames := 3, cells := 0, slots := 0, locals := 63 } s m args below meth c (MQ below (va_Qv post (GB (xw cI cZ o W E) (dC, dI) gx_cl [(cI, .int), (cZ, .boolean)] A) A) args s 0 0 A) 6 (dC, dI) gx_cl A (xw cI cZ o W E) S 0 [(0, .ref (o 0)), (1, .int v1), (2, .int v2), (3, .int v3), (4, .int v4)] [] := by
  refine gx_aload_n C dX_makeObject_0 0 rfl rfl ?_
  refine gx_iload_n C dX_makeObject_1 3 rfl rfl ?_
  refine gx_callv (As := [.int v3]) (rest := []) C (mt_X_addReference l dC dI cI cZ o W E _ _ _ hs) (gx_cwV C 1 ln_X_97 im_X_addReference se_X_addReference in_CountedObjects cd_X_addReference rfl rfl (by decide +kernel) ⟨Nat.le_of_ble_eq_true rfl, Nat.le_of_ble_eq_true rfl⟩) xo_this rfl (Nat.le_of_ble_eq_true rfl) dX_makeObject_2 (fun S1 => xw_ad _ S1) rfl (fun S1 hs => ?_)
  refine gx_aload_n C dX_makeObject_5 0 rfl rfl ?_
  refine gx_get C xo_this hi_X 1 (by decide) fl_X_22 rfl dX_makeObject_6 ?_
  refine gx_iload_n C dX_makeObject_9 1 rfl rfl ?_
  refine gx_iload_n C dX_makeObject_10 2 rfl rfl ?_
  obtain ⟨hin, hs⟩ := hs
  refine gx_iast C xa_addresses hin dX_makeObject_11 (fun S3 eS3 => ?_)
  replace hs := hs S3 eS3
  refine gx_aload_n C dX_makeObject_12 0 rfl rfl ?_
  refine gx_get C xo_this hi_X 2 (by decide) fl_X_25 rfl dX_makeObject_13 ?_
  refine gx_iload_n C dX_makeObject_16 1 rfl rfl ?_
  refine gx_iconst (v := 0) C dX_makeObject_17 (by decide) ?_
  obtain ⟨hin, hs⟩ := hs
  refine gx_iast C xa_counts hin dX_makeObject_18 (fun S4 eS4 => ?_)
  replace hs := hs S4 eS4
  refine gx_aload_n C dX_makeObject_19 0 rfl rfl ?_
  refine gx_get C xo_this hi_X 0 (by decide) fl_X_18 rfl dX_makeObject_20 ?_
  refine gx_iload_n C dX_makeObject_23 2 rfl rfl ?_
  refine gx_iload C dX_makeObject_24 4 rfl ?_
  obtain ⟨hin, hs⟩ := hs
  refine gx_iast C xa_words hin dX_makeObject_26 (fun S5 eS5 => ?_)
  replace hs := hs S5 eS5
  refine gx_aload_n C dX_makeObject_27 0 rfl rfl ?_
  refine gx_get C xo_this hi_X 0 (by decide) fl_X_18 rfl dX_makeObject_28 ?_
  refine gx_iload_n C dX_makeObject_31 2 rfl rfl ?_
  refine gx_iconst (v := 1) C dX_makeObject_32 (by decide) ?_
  refine gx_iadd C dX_makeObject_33 ?_
  refine gx_iload_n C dX_makeObject_34 3 rfl rfl ?_
  obtain ⟨hin, hs⟩ := hs
  refine gx_iast C xa_words hin dX_makeObject_35 (fun S6 eS6 => ?_)
  replace hs := hs S6 eS6
  refine gx_iconst (v := 0) C dX_makeObject_36 (by decide) ?_
  refine gx_top (fun y7 ey7 => ?_)
  replace hs := hs y7 ey7
  refine gx_istore (L' := [(5, .int y7), (0, .ref (o 0)), (1, .int v1), (2, .int v2), (3, .int v3), (4, .int v4)]) C dX_makeObject_37 (by decide) rfl ?_
  exact gx_sub [1, 2, 3, 4, 5, 0] rfl hs
set_option maxHeartbeats 4000000 in
set_option maxRecDepth 100000 in
theorem wk_X_makeObject_39 {l : Launch} {dC : Nat → ClassId} {dI : Nat → Nat → Nat} {cI cZ : ClassId} {o : Nat → Nat} {W E : Nat} {p : Program} {e : Env} {s : State} {m : MethodId} {args : Array Value} {below : List Frame} {meth : Method} {c : Code} {A : Nat → Prop} {post : GS → Prop} (C : GC p s m args c cX_makeObject 6 RX wsA (dC, dI) gx_cl [(cI, .int), (cZ, .boolean)] A) (hr : meth.sig.returnType = none) (hlocks : meth.locks = false) (S : GS) (v1 : Int32) (v2 : Int32) (v3 : Int32) (v4 : Int32) (v5 : Int32) (hs : sp_X_makeObject W E post (vh_X_makeObject o (GV p l e { frames := 3, cells := 0, slots := 0, locals := 63 } s m args below meth c (MQ below (va_Qv post (GB (xw cI cZ o W E) (dC, dI) gx_cl [(cI, .int), (cZ, .boolean)] A) A) args s 0 0 A) 6 (dC, dI) gx_cl A (xw cI cZ o W E))) 39 S [v1, v2, v3, v4, v5]) : GV p l e { frames := 3, cells := 0, slots := 0, locals := 63 } s m args below meth c (MQ below (va_Qv post (GB (xw cI cZ o W E) (dC, dI) gx_cl [(cI, .int), (cZ, .boolean)] A) A) args s 0 0 A) 6 (dC, dI) gx_cl A (xw cI cZ o W E) S 39 [(0, .ref (o 0)), (1, .int v1), (2, .int v2), (3, .int v3), (4, .int v4), (5, .int v5)] [] := by
  refine gx_iload C dX_makeObject_39 5 rfl ?_
  refine gx_iload C dX_makeObject_41 4 rfl ?_
  obtain ⟨ht, hf⟩ := hs
  refine gx_icmp_ge C dX_makeObject_43 64 rfl (fun hc => ?_) (fun hc => ?_)
  · have hs := ht hc
    exact gx_vret C hr hlocks dX_makeObject_64 hs
  · have hs := hf hc
    refine gx_aload_n C dX_makeObject_46 0 rfl rfl ?_
    refine gx_get C xo_this hi_X 0 (by decide) fl_X_18 rfl dX_makeObject_47 ?_
    refine gx_iload_n C dX_makeObject_50 2 rfl rfl ?_
    refine gx_iconst (v := 2) C dX_makeObject_51 (by decide) ?_
    refine gx_iadd C dX_makeObject_52 ?_
    refine gx_iload C dX_makeObject_53 5 rfl ?_
    refine gx_iadd C dX_makeObject_55 ?_
    refine gx_iconst (v := 0) C dX_makeObject_56 (by decide) ?_
    obtain ⟨hin, hs⟩ := hs
    refine gx_iast C xa_words hin dX_makeObject_57 (fun S1 eS1 => ?_)
    replace hs := hs S1 eS1
    refine gx_iinc (v0 := 1) (f := fun v => [(5, .int v), (0, .ref (o 0)), (1, .int v1), (2, .int v2), (3, .int v3), (4, .int v4)]) C dX_makeObject_58 5 rfl (by decide) (by decide) (fun _ => rfl) (fun y2 ey2 => ?_)
    replace hs := hs y2 ey2
    refine gx_goto C dX_makeObject_61 39 rfl ?_
    exact gx_sub [1, 2, 3, 4, 5, 0] rfl hs
set_option maxHeartbeats 4000000 in
set_option maxRecDepth 100000 in
theorem mt_X_makeObject (l : Launch) (dC : Nat → ClassId) (dI : Nat → Nat → Nat) (cI cZ : ClassId) (o : Nat → Nat) (W E : Nat) (v1 : Int32) (v2 : Int32) (v3 : Int32) (v4 : Int32) (S : GS) (post : GS → Prop) (h : wp_X_makeObject W E [v1, v2, v3, v4] S post) : MetV l yX_makeObject (Cond.code yX_makeObject cX_makeObject 6 none :: wsA) ({ frames := 3, cells := 0, slots := 0, locals := 63 }) (dC, dI) gx_cl [(cI, .int), (cZ, .boolean)] (xw cI cZ o W E) [.ref (o 0), .int v1, .int v2, .int v3, .int v4] S post := by
  refine gx_metV (by decide) wsA_good (Nat.le_of_ble_eq_true rfl) ?_
  intro p e s m args below meth c A C hr hlocks
  refine h (vh_X_makeObject o (GV p l e { frames := 3, cells := 0, slots := 0, locals := 63 } s m args below meth c (MQ below (va_Qv post (GB (xw cI cZ o W E) (dC, dI) gx_cl [(cI, .int), (cZ, .boolean)] A) A) args s 0 0 A) 6 (dC, dI) gx_cl A (xw cI cZ o W E))) (fun h S xs hs => ?_)
  unfold sp_X_makeObject at hs
  split at hs
  · exact wk_X_makeObject_0 C hr hlocks _ _ _ _ _ hs
  · exact wk_X_makeObject_39 C hr hlocks _ _ _ _ _ _ hs
  · exact hs.elim
/-- CountedObjects.freeEntry(I)V: a step from head to head -/
def sp_X_freeEntry (W E : Nat) (post : GS → Prop) (V : Nat → GS → List Int32 → Prop) (h : Nat) (S : GS) (xs : List Int32) : Prop := match h, xs with
  | 0, [v1] => (vp_in v1 (E + 1) ∧ wp_X_wordsOf W E [v1] S (fun r2 S1 => wp_F_add W E [S 1 (v1).toNatClampNeg, r2] S1 (fun S3 => (vp_in v1 (E + 1) ∧ ∀ S5 : GS, S5 = gx_set 1 (v1).toNatClampNeg (-1) S3 → post S5))))
  | _, _ => False
def wp_X_freeEntry (W E : Nat) (xs : List Int32) (S : GS) (post : GS → Prop) : Prop := ∀ V : Nat → GS → List Int32 → Prop, (∀ h S xs, sp_X_freeEntry W E post V h S xs → V h S xs) → V 0 S xs
def vh_X_freeEntry (o : Nat → Nat) (G : GS → Nat → List (Nat × Value) → List Value → Prop) (h : Nat) (S : GS) (xs : List Int32) : Prop := match h, xs with
  | 0, [v1] => G S 0 [(0, .ref (o 0)), (1, .int v1)] []
  | _, _ => True
set_option maxHeartbeats 4000000 in
set_option maxRecDepth 100000 in
theorem wk_X_freeEntry_0 {l : Launch} {dC : Nat → ClassId} {dI : Nat → Nat → Nat} {cI cZ : ClassId} {o : Nat → Nat} {W E : Nat} {p : Program} {e : Env} {s : State} {m : MethodId} {args : Array Value} {below : List Frame} {meth : Method} {c : Code} {A : Nat → Prop} {post : GS → Prop} (C : GC p s m args c cX_freeEntry 2 RX wsA (dC, dI) gx_cl [(cI, .int), (cZ, .boolean)] A) (hr : meth.sig.returnType = none) (hlocks : meth.locks = false) (S : GS) (v1 : Int32) (hs : sp_X_freeEntry W E post (vh_X_freeEntry o (GV p l e { frames := 1, cells := 0, slots := 0, locals := 22 } s m args below meth c (MQ below (va_Qv post (GB (xw cI cZ o W E) (dC, dI) gx_cl [(cI, .int), (cZ, .boolean)] A) A) args s 0 0 A) 2 (dC, dI) gx_cl A (xw cI cZ o W E))) 0 S [v1]) : GV p l e { frames := 1, cells := 0, slots := 0, locals := 22 } s m args below meth c (MQ below (va_Qv post (GB (xw cI cZ o W E) (dC, dI) gx_cl [(cI, .int), (cZ, .boolean)] A) A) args s 0 0 A) 2 (dC, dI) gx_cl A (xw cI cZ o W E) S 0 [(0, .ref (o 0)), (1, .int v1)] [] := by
  refine gx_aload_n C dX_freeEntry_0 0 rfl rfl ?_
  refine gx_get C xo_this hi_X 4 (by decide) fl_X_36 rfl dX_freeEntry_1 ?_
  refine gx_aload_n C dX_freeEntry_4 0 rfl rfl ?_
  refine gx_get C xo_this hi_X 1 (by decide) fl_X_22 rfl dX_freeEntry_5 ?_
  refine gx_iload_n C dX_freeEntry_8 1 rfl rfl ?_
  obtain ⟨hin, hs⟩ := hs
  refine gx_iald C xa_addresses hin dX_freeEntry_9 ?_
  refine gx_aload_n C dX_freeEntry_10 0 rfl rfl ?_
  refine gx_iload_n C dX_freeEntry_11 1 rfl rfl ?_
  refine gx_calli (As := [.int v1]) (rest := [.int (S 1 (v1).toNatClampNeg), .ref (o 5)]) C (mt_X_wordsOf l dC dI cI cZ o W E _ _ _ hs) (gx_cwV C 1 ln_X_126 im_X_wordsOf se_X_wordsOf in_CountedObjects cd_X_wordsOf rfl rfl (by decide +kernel) ⟨Nat.le_of_ble_eq_true rfl, Nat.le_of_ble_eq_true rfl⟩) xo_this rfl (Nat.le_of_ble_eq_true rfl) dX_freeEntry_12 (fun S1 => xw_ad _ S1) rfl (fun r2 S1 hs => ?_)
  refine gx_callv (As := [.int (S 1 (v1).toNatClampNeg), .int r2]) (rest := []) C (mt_F_add l dC dI cI cZ o W E _ _ _ _ hs) (gx_cwV C 2 ln_X_132 im_F_add se_F_add in_CountedObjects_FreeChunks cd_F_add rfl rfl (by decide +kernel) ⟨Nat.le_of_ble_eq_true rfl, Nat.le_of_ble_eq_true rfl⟩) xo_fc rfl (Nat.le_of_ble_eq_true rfl) dX_freeEntry_15 (fun S1 => xw_ad _ S1) rfl (fun S3 hs => ?_)
  refine gx_aload_n C dX_freeEntry_18 0 rfl rfl ?_
  refine gx_get C xo_this hi_X 1 (by decide) fl_X_22 rfl dX_freeEntry_19 ?_
  refine gx_iload_n C dX_freeEntry_22 1 rfl rfl ?_
  refine gx_iconst (v := (-1)) C dX_freeEntry_23 (by decide) ?_
  obtain ⟨hin, hs⟩ := hs
  refine gx_iast C xa_addresses hin dX_freeEntry_24 (fun S5 eS5 => ?_)
  replace hs := hs S5 eS5
  exact gx_vret C hr hlocks dX_freeEntry_25 hs
set_option maxHeartbeats 4000000 in
set_option maxRecDepth 100000 in
theorem mt_X_freeEntry (l : Launch) (dC : Nat → ClassId) (dI : Nat → Nat → Nat) (cI cZ : ClassId) (o : Nat → Nat) (W E : Nat) (v1 : Int32) (S : GS) (post : GS → Prop) (h : wp_X_freeEntry W E [v1] S post) : MetV l yX_freeEntry (Cond.code yX_freeEntry cX_freeEntry 2 none :: wsA) ({ frames := 1, cells := 0, slots := 0, locals := 22 }) (dC, dI) gx_cl [(cI, .int), (cZ, .boolean)] (xw cI cZ o W E) [.ref (o 0), .int v1] S post := by
  refine gx_metV (by decide) wsA_good (Nat.le_of_ble_eq_true rfl) ?_
  intro p e s m args below meth c A C hr hlocks
  refine h (vh_X_freeEntry o (GV p l e { frames := 1, cells := 0, slots := 0, locals := 22 } s m args below meth c (MQ below (va_Qv post (GB (xw cI cZ o W E) (dC, dI) gx_cl [(cI, .int), (cZ, .boolean)] A) A) args s 0 0 A) 2 (dC, dI) gx_cl A (xw cI cZ o W E))) (fun h S xs hs => ?_)
  unfold sp_X_freeEntry at hs
  split at hs
  · exact wk_X_freeEntry_0 C hr hlocks _ _ hs
  · exact hs.elim
/-- CountedObjects.lowestFrom(I)I: a step from head to head -/
def sp_X_lowestFrom (W E : Nat) (post : Int32 → GS → Prop) (V : Nat → GS → List Int32 → Prop) (h : Nat) (S : GS) (xs : List Int32) : Prop := match h, xs with
  | 0, [v1] => ∀ y1 : Int32, y1 = 0 → ∀ y2 : Int32, y2 = 1 → V 4 S [v1, y1, y2]
  | 4, [v1, v2, v3] => (((nI (E + 1)) ≤ v3 → post v2 S) ∧ (¬ (nI (E + 1)) ≤ v3 → wp_X_isUsed W E [v3] S (fun r2 S1 => ((r2 = 0 → ∀ y3 : Int32, y3 = 0 → ((y3 = 0 → (∀ y4 : Int32, y4 = v3 + 1 → V 4 S1 [v1, v2, y4])) ∧ (¬ y3 = 0 → ((v2 = 0 → (∀ y5 : Int32, y5 = v3 + 1 → V 4 S1 [v1, v3, y5])) ∧ (¬ v2 = 0 → (vp_in v3 (E + 1) ∧ (vp_in v2 (E + 1) ∧ (((S1 1 (v2).toNatClampNeg) ≤ (S1 1 (v3).toNatClampNeg) → (∀ y6 : Int32, y6 = v3 + 1 → V 4 S1 [v1, v2, y6])) ∧ (¬ (S1 1 (v2).toNatClampNeg) ≤ (S1 1 (v3).toNatClampNeg) → (∀ y7 : Int32, y7 = v3 + 1 → V 4 S1 [v1, v3, y7])))))))))) ∧ (¬ r2 = 0 → (vp_in v3 (E + 1) ∧ (((S1 1 (v3).toNatClampNeg) < v1 → ∀ y8 : Int32, y8 = 0 → ((y8 = 0 → (∀ y9 : Int32, y9 = v3 + 1 → V 4 S1 [v1, v2, y9])) ∧ (¬ y8 = 0 → ((v2 = 0 → (∀ y10 : Int32, y10 = v3 + 1 → V 4 S1 [v1, v3, y10])) ∧ (¬ v2 = 0 → (vp_in v3 (E + 1) ∧ (vp_in v2 (E + 1) ∧ (((S1 1 (v2).toNatClampNeg) ≤ (S1 1 (v3).toNatClampNeg) → (∀ y11 : Int32, y11 = v3 + 1 → V 4 S1 [v1, v2, y11])) ∧ (¬ (S1 1 (v2).toNatClampNeg) ≤ (S1 1 (v3).toNatClampNeg) → (∀ y12 : Int32, y12 = v3 + 1 → V 4 S1 [v1, v3, y12])))))))))) ∧ (¬ (S1 1 (v3).toNatClampNeg) < v1 → ∀ y13 : Int32, y13 = 1 → ((y13 = 0 → (∀ y14 : Int32, y14 = v3 + 1 → V 4 S1 [v1, v2, y14])) ∧ (¬ y13 = 0 → ((v2 = 0 → (∀ y15 : Int32, y15 = v3 + 1 → V 4 S1 [v1, v3, y15])) ∧ (¬ v2 = 0 → (vp_in v3 (E + 1) ∧ (vp_in v2 (E + 1) ∧ (((S1 1 (v2).toNatClampNeg) ≤ (S1 1 (v3).toNatClampNeg) → (∀ y16 : Int32, y16 = v3 + 1 → V 4 S1 [v1, v2, y16])) ∧ (¬ (S1 1 (v2).toNatClampNeg) ≤ (S1 1 (v3).toNatClampNeg) → (∀ y17 : Int32, y17 = v3 + 1 → V 4 S1 [v1, v3, y17])))))))))))))))))
  | _, _ => False
def wp_X_lowestFrom (W E : Nat) (xs : List Int32) (S : GS) (post : Int32 → GS → Prop) : Prop := ∀ V : Nat → GS → List Int32 → Prop, (∀ h S xs, sp_X_lowestFrom W E post V h S xs → V h S xs) → V 0 S xs
def vh_X_lowestFrom (o : Nat → Nat) (G : GS → Nat → List (Nat × Value) → List Value → Prop) (h : Nat) (S : GS) (xs : List Int32) : Prop := match h, xs with
  | 0, [v1] => G S 0 [(0, .ref (o 0)), (1, .int v1)] []
  | 4, [v1, v2, v3] => G S 4 [(0, .ref (o 0)), (1, .int v1), (2, .int v2), (3, .int v3)] []
  | _, _ => True
set_option maxHeartbeats 4000000 in
set_option maxRecDepth 100000 in
theorem wk_X_lowestFrom_0 {l : Launch} {dC : Nat → ClassId} {dI : Nat → Nat → Nat} {cI cZ : ClassId} {o : Nat → Nat} {W E : Nat} {p : Program} {e : Env} {s : State} {m : MethodId} {args : Array Value} {below : List Frame} {meth : Method} {c : Code} {A : Nat → Prop} {post : Int32 → GS → Prop} (C : GC p s m args c cX_lowestFrom 5 RX wsA (dC, dI) gx_cl [(cI, .int), (cZ, .boolean)] A) (hr : meth.sig.returnType = (some .int)) (hlocks : meth.locks = false) (S : GS) (v1 : Int32) (hs : sp_X_lowestFrom W E post (vh_X_lowestFrom o (GV p l e { frames := 1, cells := 0, slots := 0, locals := 21 } s m args below meth c (MQ below (va_Qi post (GB (xw cI cZ o W E) (dC, dI) gx_cl [(cI, .int), (cZ, .boolean)] A) A) args s 0 0 A) 5 (dC, dI) gx_cl A (xw cI cZ o W E))) 0 S [v1]) : GV p l e { frames := 1, cells := 0, slots := 0, locals := 21 } s m args below meth c (MQ below (va_Qi post (GB (xw cI cZ o W E) (dC, dI) gx_cl [(cI, .int), (cZ, .boolean)] A) A) args s 0 0 A) 5 (dC, dI) gx_cl A (xw cI cZ o W E) S 0 [(0, .ref (o 0)), (1, .int v1)] [] := by
  refine gx_iconst (v := 0) C dX_lowestFrom_0 (by decide) ?_
  refine gx_top (fun y1 ey1 => ?_)
  replace hs := hs y1 ey1
  refine gx_istore_n (L' := [(2, .int y1), (0, .ref (o 0)), (1, .int v1)]) C dX_lowestFrom_1 rfl (by decide) rfl ?_
  refine gx_iconst (v := 1) C dX_lowestFrom_2 (by decide) ?_
  refine gx_top (fun y2 ey2 => ?_)
  replace hs := hs y2 ey2
  refine gx_istore_n (L' := [(3, .int y2), (2, .int y1), (0, .ref (o 0)), (1, .int v1)]) C dX_lowestFrom_3 rfl (by decide) rfl ?_
  exact gx_sub [2, 3, 1, 0] rfl hs
set_option maxHeartbeats 4000000 in
set_option maxRecDepth 100000 in
theorem wk_X_lowestFrom_4 {l : Launch} {dC : Nat → ClassId} {dI : Nat → Nat → Nat} {cI cZ : ClassId} {o : Nat → Nat} {W E : Nat} {p : Program} {e : Env} {s : State} {m : MethodId} {args : Array Value} {below : List Frame} {meth : Method} {c : Code} {A : Nat → Prop} {post : Int32 → GS → Prop} (C : GC p s m args c cX_lowestFrom 5 RX wsA (dC, dI) gx_cl [(cI, .int), (cZ, .boolean)] A) (hr : meth.sig.returnType = (some .int)) (hlocks : meth.locks = false) (S : GS) (v1 : Int32) (v2 : Int32) (v3 : Int32) (hs : sp_X_lowestFrom W E post (vh_X_lowestFrom o (GV p l e { frames := 1, cells := 0, slots := 0, locals := 21 } s m args below meth c (MQ below (va_Qi post (GB (xw cI cZ o W E) (dC, dI) gx_cl [(cI, .int), (cZ, .boolean)] A) A) args s 0 0 A) 5 (dC, dI) gx_cl A (xw cI cZ o W E))) 4 S [v1, v2, v3]) : GV p l e { frames := 1, cells := 0, slots := 0, locals := 21 } s m args below meth c (MQ below (va_Qi post (GB (xw cI cZ o W E) (dC, dI) gx_cl [(cI, .int), (cZ, .boolean)] A) A) args s 0 0 A) 5 (dC, dI) gx_cl A (xw cI cZ o W E) S 4 [(0, .ref (o 0)), (1, .int v1), (2, .int v2), (3, .int v3)] [] := by
  refine gx_iload_n C dX_lowestFrom_4 3 rfl rfl ?_
  refine gx_aload_n C dX_lowestFrom_5 0 rfl rfl ?_
  refine gx_get C xo_this hi_X 1 (by decide) fl_X_22 rfl dX_lowestFrom_6 ?_
  refine gx_alen C xa_addresses dX_lowestFrom_9 ?_
  obtain ⟨ht, hf⟩ := hs
  refine gx_icmp_ge C dX_lowestFrom_10 70 rfl (fun hc => ?_) (fun hc => ?_)
  · have hs := ht hc
    refine gx_iload_n C dX_lowestFrom_70 2 rfl rfl ?_
    exact gx_iret C hr hlocks dX_lowestFrom_71 hs
  · have hs := hf hc
    refine gx_aload_n C dX_lowestFrom_13 0 rfl rfl ?_
    refine gx_iload_n C dX_lowestFrom_14 3 rfl rfl ?_
    refine gx_calli (As := [.int v3]) (rest := []) C (mt_X_isUsed l dC dI cI cZ o W E _ _ _ hs) (gx_cwV C 1 ln_X_120 im_X_isUsed se_X_isUsed in_CountedObjects cd_X_isUsed rfl rfl (by decide +kernel) ⟨Nat.le_of_ble_eq_true rfl, Nat.le_of_ble_eq_true rfl⟩) xo_this rfl (Nat.le_of_ble_eq_true rfl) dX_lowestFrom_15 (fun S1 => xw_ad _ S1) rfl (fun r2 S1 hs => ?_)
    obtain ⟨ht, hf⟩ := hs
    refine gx_if_eq C dX_lowestFrom_18 35 rfl (fun hc => ?_) (fun hc => ?_)
    · have hs := ht hc
      refine gx_iconst (v := 0) C dX_lowestFrom_35 (by decide) ?_
      refine gx_top (fun y3 ey3 => ?_)
      replace hs := hs y3 ey3
      refine gx_istore (L' := [(4, .int y3), (0, .ref (o 0)), (1, .int v1), (2, .int v2), (3, .int v3)]) C dX_lowestFrom_36 (by decide) rfl ?_
      refine gx_iload C dX_lowestFrom_38 0 rfl ?_
      obtain ⟨ht, hf⟩ := hs
      refine gx_if_eq C dX_lowestFrom_40 64 rfl (fun hc => ?_) (fun hc => ?_)
      · have hs := ht hc
        refine gx_iinc (v0 := 1) (f := fun v => [(3, .int v), (4, .int y3), (0, .ref (o 0)), (1, .int v1), (2, .int v2)]) C dX_lowestFrom_64 4 rfl (by decide) (by decide) (fun _ => rfl) (fun y4 ey4 => ?_)
        replace hs := hs y4 ey4
        refine gx_goto C dX_lowestFrom_67 4 rfl ?_
        exact gx_sub [2, 3, 4, 0] rfl hs
      · have hs := hf hc
        refine gx_iload_n C dX_lowestFrom_43 3 rfl rfl ?_
        obtain ⟨ht, hf⟩ := hs
        refine gx_if_eq C dX_lowestFrom_44 62 rfl (fun hc => ?_) (fun hc => ?_)
        · have hs := ht hc
          refine gx_iload_n C dX_lowestFrom_62 4 rfl rfl ?_
          refine gx_istore_n (L' := [(2, .int v3), (4, .int y3), (0, .ref (o 0)), (1, .int v1), (3, .int v3)]) C dX_lowestFrom_63 rfl (by decide) rfl ?_
          refine gx_iinc (v0 := 1) (f := fun v => [(3, .int v), (2, .int v3), (4, .int y3), (0, .ref (o 0)), (1, .int v1)]) C dX_lowestFrom_64 4 rfl (by decide) (by decide) (fun _ => rfl) (fun y5 ey5 => ?_)
          replace hs := hs y5 ey5
          refine gx_goto C dX_lowestFrom_67 4 rfl ?_
          exact gx_sub [3, 4, 1, 0] rfl hs
        · have hs := hf hc
          refine gx_aload_n C dX_lowestFrom_47 1 rfl rfl ?_
          refine gx_get C xo_this hi_X 1 (by decide) fl_X_22 rfl dX_lowestFrom_48 ?_
          refine gx_iload_n C dX_lowestFrom_51 4 rfl rfl ?_
          obtain ⟨hin, hs⟩ := hs
          refine gx_iald C xa_addresses hin dX_lowestFrom_52 ?_
          refine gx_aload_n C dX_lowestFrom_53 1 rfl rfl ?_
          refine gx_get C xo_this hi_X 1 (by decide) fl_X_22 rfl dX_lowestFrom_54 ?_
          refine gx_iload_n C dX_lowestFrom_57 3 rfl rfl ?_
          obtain ⟨hin, hs⟩ := hs
          refine gx_iald C xa_addresses hin dX_lowestFrom_58 ?_
          obtain ⟨ht, hf⟩ := hs
          refine gx_icmp_ge C dX_lowestFrom_59 64 rfl (fun hc => ?_) (fun hc => ?_)
          · have hs := ht hc
            refine gx_iinc (v0 := 1) (f := fun v => [(3, .int v), (4, .int y3), (0, .ref (o 0)), (1, .int v1), (2, .int v2)]) C dX_lowestFrom_64 4 rfl (by decide) (by decide) (fun _ => rfl) (fun y6 ey6 => ?_)
            replace hs := hs y6 ey6
            refine gx_goto C dX_lowestFrom_67 4 rfl ?_
            exact gx_sub [2, 3, 4, 0] rfl hs
          · have hs := hf hc
            refine gx_iload_n C dX_lowestFrom_62 4 rfl rfl ?_
            refine gx_istore_n (L' := [(2, .int v3), (4, .int y3), (0, .ref (o 0)), (1, .int v1), (3, .int v3)]) C dX_lowestFrom_63 rfl (by decide) rfl ?_
            refine gx_iinc (v0 := 1) (f := fun v => [(3, .int v), (2, .int v3), (4, .int y3), (0, .ref (o 0)), (1, .int v1)]) C dX_lowestFrom_64 4 rfl (by decide) (by decide) (fun _ => rfl) (fun y7 ey7 => ?_)
            replace hs := hs y7 ey7
            refine gx_goto C dX_lowestFrom_67 4 rfl ?_
            exact gx_sub [3, 4, 1, 0] rfl hs
    · have hs := hf hc
      refine gx_aload_n C dX_lowestFrom_21 0 rfl rfl ?_
      refine gx_get C xo_this hi_X 1 (by decide) fl_X_22 rfl dX_lowestFrom_22 ?_
      refine gx_iload_n C dX_lowestFrom_25 3 rfl rfl ?_
      obtain ⟨hin, hs⟩ := hs
      refine gx_iald C xa_addresses hin dX_lowestFrom_26 ?_
      refine gx_iload_n C dX_lowestFrom_27 1 rfl rfl ?_
      obtain ⟨ht, hf⟩ := hs
      refine gx_icmp_lt C dX_lowestFrom_28 35 rfl (fun hc => ?_) (fun hc => ?_)
      · have hs := ht hc
        refine gx_iconst (v := 0) C dX_lowestFrom_35 (by decide) ?_
        refine gx_top (fun y8 ey8 => ?_)
        replace hs := hs y8 ey8
        refine gx_istore (L' := [(4, .int y8), (0, .ref (o 0)), (1, .int v1), (2, .int v2), (3, .int v3)]) C dX_lowestFrom_36 (by decide) rfl ?_
        refine gx_iload C dX_lowestFrom_38 0 rfl ?_
        obtain ⟨ht, hf⟩ := hs
        refine gx_if_eq C dX_lowestFrom_40 64 rfl (fun hc => ?_) (fun hc => ?_)
        · have hs := ht hc
          refine gx_iinc (v0 := 1) (f := fun v => [(3, .int v), (4, .int y8), (0, .ref (o 0)), (1, .int v1), (2, .int v2)]) C dX_lowestFrom_64 4 rfl (by decide) (by decide) (fun _ => rfl) (fun y9 ey9 => ?_)
          replace hs := hs y9 ey9
          refine gx_goto C dX_lowestFrom_67 4 rfl ?_
          exact gx_sub [2, 3, 4, 0] rfl hs
        · have hs := hf hc
          refine gx_iload_n C dX_lowestFrom_43 3 rfl rfl ?_
          obtain ⟨ht, hf⟩ := hs
          refine gx_if_eq C dX_lowestFrom_44 62 rfl (fun hc => ?_) (fun hc => ?_)
          · have hs := ht hc
            refine gx_iload_n C dX_lowestFrom_62 4 rfl rfl ?_
            refine gx_istore_n (L' := [(2, .int v3), (4, .int y8), (0, .ref (o 0)), (1, .int v1), (3, .int v3)]) C dX_lowestFrom_63 rfl (by decide) rfl ?_
            refine gx_iinc (v0 := 1) (f := fun v => [(3, .int v), (2, .int v3), (4, .int y8), (0, .ref (o 0)), (1, .int v1)]) C dX_lowestFrom_64 4 rfl (by decide) (by decide) (fun _ => rfl) (fun y10 ey10 => ?_)
            replace hs := hs y10 ey10
            refine gx_goto C dX_lowestFrom_67 4 rfl ?_
            exact gx_sub [3, 4, 1, 0] rfl hs
          · have hs := hf hc
            refine gx_aload_n C dX_lowestFrom_47 1 rfl rfl ?_
            refine gx_get C xo_this hi_X 1 (by decide) fl_X_22 rfl dX_lowestFrom_48 ?_
            refine gx_iload_n C dX_lowestFrom_51 4 rfl rfl ?_
            obtain ⟨hin, hs⟩ := hs
            refine gx_iald C xa_addresses hin dX_lowestFrom_52 ?_
            refine gx_aload_n C dX_lowestFrom_53 1 rfl rfl ?_
            refine gx_get C xo_this hi_X 1 (by decide) fl_X_22 rfl dX_lowestFrom_54 ?_
            refine gx_iload_n C dX_lowestFrom_57 3 rfl rfl ?_
            obtain ⟨hin, hs⟩ := hs
            refine gx_iald C xa_addresses hin dX_lowestFrom_58 ?_
            obtain ⟨ht, hf⟩ := hs
            refine gx_icmp_ge C dX_lowestFrom_59 64 rfl (fun hc => ?_) (fun hc => ?_)
            · have hs := ht hc
              refine gx_iinc (v0 := 1) (f := fun v => [(3, .int v), (4, .int y8), (0, .ref (o 0)), (1, .int v1), (2, .int v2)]) C dX_lowestFrom_64 4 rfl (by decide) (by decide) (fun _ => rfl) (fun y11 ey11 => ?_)
              replace hs := hs y11 ey11
              refine gx_goto C dX_lowestFrom_67 4 rfl ?_
              exact gx_sub [2, 3, 4, 0] rfl hs
            · have hs := hf hc
              refine gx_iload_n C dX_lowestFrom_62 4 rfl rfl ?_
              refine gx_istore_n (L' := [(2, .int v3), (4, .int y8), (0, .ref (o 0)), (1, .int v1), (3, .int v3)]) C dX_lowestFrom_63 rfl (by decide) rfl ?_
              refine gx_iinc (v0 := 1) (f := fun v => [(3, .int v), (2, .int v3), (4, .int y8), (0, .ref (o 0)), (1, .int v1)]) C dX_lowestFrom_64 4 rfl (by decide) (by decide) (fun _ => rfl) (fun y12 ey12 => ?_)
              replace hs := hs y12 ey12
              refine gx_goto C dX_lowestFrom_67 4 rfl ?_
              exact gx_sub [3, 4, 1, 0] rfl hs
      · have hs := hf hc
        refine gx_iconst (v := 1) C dX_lowestFrom_31 (by decide) ?_
        refine gx_goto C dX_lowestFrom_32 36 rfl ?_
        refine gx_top (fun y13 ey13 => ?_)
        replace hs := hs y13 ey13
        refine gx_istore (L' := [(4, .int y13), (0, .ref (o 0)), (1, .int v1), (2, .int v2), (3, .int v3)]) C dX_lowestFrom_36 (by decide) rfl ?_
        refine gx_iload C dX_lowestFrom_38 0 rfl ?_
        obtain ⟨ht, hf⟩ := hs
        refine gx_if_eq C dX_lowestFrom_40 64 rfl (fun hc => ?_) (fun hc => ?_)
        · have hs := ht hc
          refine gx_iinc (v0 := 1) (f := fun v => [(3, .int v), (4, .int y13), (0, .ref (o 0)), (1, .int v1), (2, .int v2)]) C dX_lowestFrom_64 4 rfl (by decide) (by decide) (fun _ => rfl) (fun y14 ey14 => ?_)
          replace hs := hs y14 ey14
          refine gx_goto C dX_lowestFrom_67 4 rfl ?_
          exact gx_sub [2, 3, 4, 0] rfl hs
        · have hs := hf hc
          refine gx_iload_n C dX_lowestFrom_43 3 rfl rfl ?_
          obtain ⟨ht, hf⟩ := hs
          refine gx_if_eq C dX_lowestFrom_44 62 rfl (fun hc => ?_) (fun hc => ?_)
          · have hs := ht hc
            refine gx_iload_n C dX_lowestFrom_62 4 rfl rfl ?_
            refine gx_istore_n (L' := [(2, .int v3), (4, .int y13), (0, .ref (o 0)), (1, .int v1), (3, .int v3)]) C dX_lowestFrom_63 rfl (by decide) rfl ?_
            refine gx_iinc (v0 := 1) (f := fun v => [(3, .int v), (2, .int v3), (4, .int y13), (0, .ref (o 0)), (1, .int v1)]) C dX_lowestFrom_64 4 rfl (by decide) (by decide) (fun _ => rfl) (fun y15 ey15 => ?_)
            replace hs := hs y15 ey15
            refine gx_goto C dX_lowestFrom_67 4 rfl ?_
            exact gx_sub [3, 4, 1, 0] rfl hs
          · have hs := hf hc
            refine gx_aload_n C dX_lowestFrom_47 1 rfl rfl ?_
            refine gx_get C xo_this hi_X 1 (by decide) fl_X_22 rfl dX_lowestFrom_48 ?_
            refine gx_iload_n C dX_lowestFrom_51 4 rfl rfl ?_
            obtain ⟨hin, hs⟩ := hs
            refine gx_iald C xa_addresses hin dX_lowestFrom_52 ?_
            refine gx_aload_n C dX_lowestFrom_53 1 rfl rfl ?_
            refine gx_get C xo_this hi_X 1 (by decide) fl_X_22 rfl dX_lowestFrom_54 ?_
            refine gx_iload_n C dX_lowestFrom_57 3 rfl rfl ?_
            obtain ⟨hin, hs⟩ := hs
            refine gx_iald C xa_addresses hin dX_lowestFrom_58 ?_
            obtain ⟨ht, hf⟩ := hs
            refine gx_icmp_ge C dX_lowestFrom_59 64 rfl (fun hc => ?_) (fun hc => ?_)
            · have hs := ht hc
              refine gx_iinc (v0 := 1) (f := fun v => [(3, .int v), (4, .int y13), (0, .ref (o 0)), (1, .int v1), (2, .int v2)]) C dX_lowestFrom_64 4 rfl (by decide) (by decide) (fun _ => rfl) (fun y16 ey16 => ?_)
              replace hs := hs y16 ey16
              refine gx_goto C dX_lowestFrom_67 4 rfl ?_
              exact gx_sub [2, 3, 4, 0] rfl hs
            · have hs := hf hc
              refine gx_iload_n C dX_lowestFrom_62 4 rfl rfl ?_
              refine gx_istore_n (L' := [(2, .int v3), (4, .int y13), (0, .ref (o 0)), (1, .int v1), (3, .int v3)]) C dX_lowestFrom_63 rfl (by decide) rfl ?_
              refine gx_iinc (v0 := 1) (f := fun v => [(3, .int v), (2, .int v3), (4, .int y13), (0, .ref (o 0)), (1, .int v1)]) C dX_lowestFrom_64 4 rfl (by decide) (by decide) (fun _ => rfl) (fun y17 ey17 => ?_)
              replace hs := hs y17 ey17
              refine gx_goto C dX_lowestFrom_67 4 rfl ?_
              exact gx_sub [3, 4, 1, 0] rfl hs
set_option maxHeartbeats 4000000 in
set_option maxRecDepth 100000 in
theorem mt_X_lowestFrom (l : Launch) (dC : Nat → ClassId) (dI : Nat → Nat → Nat) (cI cZ : ClassId) (o : Nat → Nat) (W E : Nat) (v1 : Int32) (S : GS) (post : Int32 → GS → Prop) (h : wp_X_lowestFrom W E [v1] S post) : MetI l yX_lowestFrom (Cond.code yX_lowestFrom cX_lowestFrom 5 (some .int) :: wsA) ({ frames := 1, cells := 0, slots := 0, locals := 21 }) (dC, dI) gx_cl [(cI, .int), (cZ, .boolean)] (xw cI cZ o W E) [.ref (o 0), .int v1] S post := by
  refine gx_metI (by decide) wsA_good (Nat.le_of_ble_eq_true rfl) ?_
  intro p e s m args below meth c A C hr hlocks
  refine h (vh_X_lowestFrom o (GV p l e { frames := 1, cells := 0, slots := 0, locals := 21 } s m args below meth c (MQ below (va_Qi post (GB (xw cI cZ o W E) (dC, dI) gx_cl [(cI, .int), (cZ, .boolean)] A) A) args s 0 0 A) 5 (dC, dI) gx_cl A (xw cI cZ o W E))) (fun h S xs hs => ?_)
  unfold sp_X_lowestFrom at hs
  split at hs
  · exact wk_X_lowestFrom_0 C hr hlocks _ _ hs
  · exact wk_X_lowestFrom_4 C hr hlocks _ _ _ _ hs
  · exact hs.elim
/-- CountedObjects.moveTogether()I: a step from head to head -/
def sp_X_moveTogether (W E : Nat) (post : Int32 → GS → Prop) (V : Nat → GS → List Int32 → Prop) (h : Nat) (S : GS) (xs : List Int32) : Prop := match h, xs with
  | 0, [] => ∀ y1 : Int32, y1 = 0 → ∀ y2 : Int32, y2 = 0 → ∀ y3 : Int32, y3 = 1 → V 6 S [y1, y2, y3]
  | 6, [v1, v2, v3] => (((nI (E + 1)) ≤ v3 → wp_F_clear W E [] S (fun S1 => (((nI W) ≤ v2 → post v1 S1) ∧ (¬ (nI W) ≤ v2 → wp_F_add W E [v2, (nI W) - v2] S1 (fun S3 => post v1 S3))))) ∧ (¬ (nI (E + 1)) ≤ v3 → wp_X_lowestFrom W E [v2] S (fun r6 S5 => ((¬ r6 = 0 → wp_X_wordsOf W E [r6] S5 (fun r8 S7 => (vp_in r6 (E + 1) ∧ (((S7 1 (r6).toNatClampNeg) = v2 → ∀ y9 : Int32, y9 = v2 + r8 → (∀ y10 : Int32, y10 = v3 + 1 → V 6 S7 [v1, y9, y10])) ∧ (¬ (S7 1 (r6).toNatClampNeg) = v2 → (vp_in r6 (E + 1) ∧ (¬ (S7 1 (r6).toNatClampNeg) < 0 ∧ ¬ v2 < 0 ∧ ¬ r8 < 0 ∧ (S7 1 (r6).toNatClampNeg).toNatClampNeg + (r8).toNatClampNeg ≤ W ∧ (v2).toNatClampNeg + (r8).toNatClampNeg ≤ W ∧ ∀ S11 : GS, S11 = gx_row 0 (va_cpy (S7 0) (S7 0) (S7 1 (r6).toNatClampNeg).toNatClampNeg (v2).toNatClampNeg (r8).toNatClampNeg) S7 → (vp_in r6 (E + 1) ∧ ∀ S12 : GS, S12 = gx_set 1 (r6).toNatClampNeg v2 S11 → (∀ y13 : Int32, y13 = v1 + 1 → ∀ y14 : Int32, y14 = v2 + r8 → (∀ y15 : Int32, y15 = v3 + 1 → V 6 S12 [y13, y14, y15])))))))))) ∧ (r6 = 0 → wp_F_clear W E [] S5 (fun S16 => (((nI W) ≤ v2 → post v1 S16) ∧ (¬ (nI W) ≤ v2 → wp_F_add W E [v2, (nI W) - v2] S16 (fun S18 => post v1 S18)))))))))
  | _, _ => False
def wp_X_moveTogether (W E : Nat) (xs : List Int32) (S : GS) (post : Int32 → GS → Prop) : Prop := ∀ V : Nat → GS → List Int32 → Prop, (∀ h S xs, sp_X_moveTogether W E post V h S xs → V h S xs) → V 0 S xs
def vh_X_moveTogether (o : Nat → Nat) (G : GS → Nat → List (Nat × Value) → List Value → Prop) (h : Nat) (S : GS) (xs : List Int32) : Prop := match h, xs with
  | 0, [] => G S 0 [(0, .ref (o 0))] []
  | 6, [v1, v2, v3] => G S 6 [(0, .ref (o 0)), (1, .int v1), (2, .int v2), (3, .int v3)] []
  | _, _ => True
set_option maxHeartbeats 4000000 in
set_option maxRecDepth 100000 in
theorem wk_X_moveTogether_0 {l : Launch} {dC : Nat → ClassId} {dI : Nat → Nat → Nat} {cI cZ : ClassId} {o : Nat → Nat} {W E : Nat} {p : Program} {e : Env} {s : State} {m : MethodId} {args : Array Value} {below : List Frame} {meth : Method} {c : Code} {A : Nat → Prop} {post : Int32 → GS → Prop} (C : GC p s m args c cX_moveTogether 6 RX wsA (dC, dI) gx_cl [(cI, .int), (cZ, .boolean)] A) (hr : meth.sig.returnType = (some .int)) (hlocks : meth.locks = false) (S : GS) (hs : sp_X_moveTogether W E post (vh_X_moveTogether o (GV p l e { frames := 2, cells := 0, slots := 0, locals := 68 } s m args below meth c (MQ below (va_Qi post (GB (xw cI cZ o W E) (dC, dI) gx_cl [(cI, .int), (cZ, .boolean)] A) A) args s 0 0 A) 6 (dC, dI) gx_cl A (xw cI cZ o W E))) 0 S []) : GV p l e { frames := 2, cells := 0, slots := 0, locals := 68 } s m args below meth c (MQ below (va_Qi post (GB (xw cI cZ o W E) (dC, dI) gx_cl [(cI, .int), (cZ, .boolean)] A) A) args s 0 0 A) 6 (dC, dI) gx_cl A (xw cI cZ o W E) S 0 [(0, .ref (o 0))] [] := by
  refine gx_iconst (v := 0) C dX_moveTogether_0 (by decide) ?_
  refine gx_top (fun y1 ey1 => ?_)
  replace hs := hs y1 ey1
  refine gx_istore_n (L' := [(1, .int y1), (0, .ref (o 0))]) C dX_moveTogether_1 rfl (by decide) rfl ?_
  refine gx_iconst (v := 0) C dX_moveTogether_2 (by decide) ?_
  refine gx_top (fun y2 ey2 => ?_)
  replace hs := hs y2 ey2
  refine gx_istore_n (L' := [(2, .int y2), (1, .int y1), (0, .ref (o 0))]) C dX_moveTogether_3 rfl (by decide) rfl ?_
  refine gx_iconst (v := 1) C dX_moveTogether_4 (by decide) ?_
  refine gx_top (fun y3 ey3 => ?_)
  replace hs := hs y3 ey3
  refine gx_istore_n (L' := [(3, .int y3), (2, .int y2), (1, .int y1), (0, .ref (o 0))]) C dX_moveTogether_5 rfl (by decide) rfl ?_
  exact gx_sub [3, 2, 1, 0] rfl hs
set_option maxHeartbeats 4000000 in
set_option maxRecDepth 100000 in
theorem wk_X_moveTogether_6 {l : Launch} {dC : Nat → ClassId} {dI : Nat → Nat → Nat} {cI cZ : ClassId} {o : Nat → Nat} {W E : Nat} {p : Program} {e : Env} {s : State} {m : MethodId} {args : Array Value} {below : List Frame} {meth : Method} {c : Code} {A : Nat → Prop} {post : Int32 → GS → Prop} (C : GC p s m args c cX_moveTogether 6 RX wsA (dC, dI) gx_cl [(cI, .int), (cZ, .boolean)] A) (hr : meth.sig.returnType = (some .int)) (hlocks : meth.locks = false) (S : GS) (v1 : Int32) (v2 : Int32) (v3 : Int32) (hs : sp_X_moveTogether W E post (vh_X_moveTogether o (GV p l e { frames := 2, cells := 0, slots := 0, locals := 68 } s m args below meth c (MQ below (va_Qi post (GB (xw cI cZ o W E) (dC, dI) gx_cl [(cI, .int), (cZ, .boolean)] A) A) args s 0 0 A) 6 (dC, dI) gx_cl A (xw cI cZ o W E))) 6 S [v1, v2, v3]) : GV p l e { frames := 2, cells := 0, slots := 0, locals := 68 } s m args below meth c (MQ below (va_Qi post (GB (xw cI cZ o W E) (dC, dI) gx_cl [(cI, .int), (cZ, .boolean)] A) A) args s 0 0 A) 6 (dC, dI) gx_cl A (xw cI cZ o W E) S 6 [(0, .ref (o 0)), (1, .int v1), (2, .int v2), (3, .int v3)] [] := by
  refine gx_iload_n C dX_moveTogether_6 3 rfl rfl ?_
  refine gx_aload_n C dX_moveTogether_7 0 rfl rfl ?_
  refine gx_get C xo_this hi_X 1 (by decide) fl_X_22 rfl dX_moveTogether_8 ?_
  refine gx_alen C xa_addresses dX_moveTogether_11 ?_
  obtain ⟨ht, hf⟩ := hs
  refine gx_icmp_ge C dX_moveTogether_12 92 rfl (fun hc => ?_) (fun hc => ?_)
  · have hs := ht hc
    refine gx_aload_n C dX_moveTogether_92 0 rfl rfl ?_
    refine gx_get C xo_this hi_X 4 (by decide) fl_X_36 rfl dX_moveTogether_93 ?_
    refine gx_callv (As := []) (rest := []) C (mt_F_clear l dC dI cI cZ o W E _ _ hs) (gx_cwV C 0 ln_X_150 im_F_clear se_F_clear in_CountedObjects_FreeChunks cd_F_clear rfl rfl (by decide +kernel) ⟨Nat.le_of_ble_eq_true rfl, Nat.le_of_ble_eq_true rfl⟩) xo_fc rfl (Nat.le_of_ble_eq_true rfl) dX_moveTogether_96 (fun S1 => xw_ad _ S1) rfl (fun S1 hs => ?_)
    refine gx_iload_n C dX_moveTogether_99 2 rfl rfl ?_
    refine gx_aload_n C dX_moveTogether_100 0 rfl rfl ?_
    refine gx_get C xo_this hi_X 0 (by decide) fl_X_18 rfl dX_moveTogether_101 ?_
    refine gx_alen C xa_words dX_moveTogether_104 ?_
    obtain ⟨ht, hf⟩ := hs
    refine gx_icmp_ge C dX_moveTogether_105 123 rfl (fun hc => ?_) (fun hc => ?_)
    · have hs := ht hc
      refine gx_iload_n C dX_moveTogether_123 1 rfl rfl ?_
      exact gx_iret C hr hlocks dX_moveTogether_124 hs
    · have hs := hf hc
      refine gx_aload_n C dX_moveTogether_108 0 rfl rfl ?_
      refine gx_get C xo_this hi_X 4 (by decide) fl_X_36 rfl dX_moveTogether_109 ?_
      refine gx_iload_n C dX_moveTogether_112 2 rfl rfl ?_
      refine gx_aload_n C dX_moveTogether_113 0 rfl rfl ?_
      refine gx_get C xo_this hi_X 0 (by decide) fl_X_18 rfl dX_moveTogether_114 ?_
      refine gx_alen C xa_words dX_moveTogether_117 ?_
      refine gx_iload_n C dX_moveTogether_118 2 rfl rfl ?_
      refine gx_isub C dX_moveTogether_119 ?_
      refine gx_callv (As := [.int v2, .int ((nI W) - v2)]) (rest := []) C (mt_F_add l dC dI cI cZ o W E _ _ _ _ hs) (gx_cwV C 2 ln_X_132 im_F_add se_F_add in_CountedObjects_FreeChunks cd_F_add rfl rfl (by decide +kernel) ⟨Nat.le_of_ble_eq_true rfl, Nat.le_of_ble_eq_true rfl⟩) xo_fc rfl (Nat.le_of_ble_eq_true rfl) dX_moveTogether_120 (fun S1 => xw_ad _ S1) rfl (fun S3 hs => ?_)
      refine gx_iload_n C dX_moveTogether_123 1 rfl rfl ?_
      exact gx_iret C hr hlocks dX_moveTogether_124 hs
  · have hs := hf hc
    refine gx_aload_n C dX_moveTogether_15 0 rfl rfl ?_
    refine gx_iload_n C dX_moveTogether_16 2 rfl rfl ?_
    refine gx_calli (As := [.int v2]) (rest := []) C (mt_X_lowestFrom l dC dI cI cZ o W E _ _ _ hs) (gx_cwV C 1 ln_X_141 im_X_lowestFrom se_X_lowestFrom in_CountedObjects cd_X_lowestFrom rfl rfl (by decide +kernel) ⟨Nat.le_of_ble_eq_true rfl, Nat.le_of_ble_eq_true rfl⟩) xo_this rfl (Nat.le_of_ble_eq_true rfl) dX_moveTogether_17 (fun S1 => xw_ad _ S1) rfl (fun r6 S5 hs => ?_)
    refine gx_istore (L' := [(4, .int r6), (0, .ref (o 0)), (1, .int v1), (2, .int v2), (3, .int v3)]) C dX_moveTogether_20 (by decide) rfl ?_
    refine gx_iload C dX_moveTogether_22 0 rfl ?_
    obtain ⟨ht, hf⟩ := hs
    refine gx_if_ne C dX_moveTogether_24 30 rfl (fun hc => ?_) (fun hc => ?_)
    · have hs := ht hc
      refine gx_aload_n C dX_moveTogether_30 1 rfl rfl ?_
      refine gx_iload C dX_moveTogether_31 0 rfl ?_
      refine gx_calli (As := [.int r6]) (rest := []) C (mt_X_wordsOf l dC dI cI cZ o W E _ _ _ hs) (gx_cwV C 1 ln_X_126 im_X_wordsOf se_X_wordsOf in_CountedObjects cd_X_wordsOf rfl rfl (by decide +kernel) ⟨Nat.le_of_ble_eq_true rfl, Nat.le_of_ble_eq_true rfl⟩) xo_this rfl (Nat.le_of_ble_eq_true rfl) dX_moveTogether_33 (fun S1 => xw_ad _ S1) rfl (fun r8 S7 hs => ?_)
      refine gx_istore (L' := [(5, .int r8), (4, .int r6), (0, .ref (o 0)), (1, .int v1), (2, .int v2), (3, .int v3)]) C dX_moveTogether_36 (by decide) rfl ?_
      refine gx_aload_n C dX_moveTogether_38 2 rfl rfl ?_
      refine gx_get C xo_this hi_X 1 (by decide) fl_X_22 rfl dX_moveTogether_39 ?_
      refine gx_iload C dX_moveTogether_42 1 rfl ?_
      obtain ⟨hin, hs⟩ := hs
      refine gx_iald C xa_addresses hin dX_moveTogether_44 ?_
      refine gx_iload_n C dX_moveTogether_45 4 rfl rfl ?_
      obtain ⟨ht, hf⟩ := hs
      refine gx_icmp_eq C dX_moveTogether_46 81 rfl (fun hc => ?_) (fun hc => ?_)
      · have hs := ht hc
        refine gx_iload_n C dX_moveTogether_81 4 rfl rfl ?_
        refine gx_iload C dX_moveTogether_82 0 rfl ?_
        refine gx_iadd C dX_moveTogether_84 ?_
        refine gx_top (fun y9 ey9 => ?_)
        replace hs := hs y9 ey9
        refine gx_istore_n (L' := [(2, .int y9), (5, .int r8), (4, .int r6), (0, .ref (o 0)), (1, .int v1), (3, .int v3)]) C dX_moveTogether_85 rfl (by decide) rfl ?_
        refine gx_iinc (v0 := 1) (f := fun v => [(3, .int v), (2, .int y9), (5, .int r8), (4, .int r6), (0, .ref (o 0)), (1, .int v1)]) C dX_moveTogether_86 5 rfl (by decide) (by decide) (fun _ => rfl) (fun y10 ey10 => ?_)
        replace hs := hs y10 ey10
        refine gx_goto C dX_moveTogether_89 6 rfl ?_
        exact gx_sub [4, 5, 1, 0] rfl hs
      · have hs := hf hc
        refine gx_aload_n C dX_moveTogether_49 2 rfl rfl ?_
        refine gx_get C xo_this hi_X 0 (by decide) fl_X_18 rfl dX_moveTogether_50 ?_
        refine gx_aload_n C dX_moveTogether_53 2 rfl rfl ?_
        refine gx_get C xo_this hi_X 1 (by decide) fl_X_22 rfl dX_moveTogether_54 ?_
        refine gx_iload C dX_moveTogether_57 1 rfl ?_
        obtain ⟨hin, hs⟩ := hs
        refine gx_iald C xa_addresses hin dX_moveTogether_59 ?_
        refine gx_aload_n C dX_moveTogether_60 2 rfl rfl ?_
        refine gx_get C xo_this hi_X 0 (by decide) fl_X_18 rfl dX_moveTogether_61 ?_
        refine gx_iload_n C dX_moveTogether_64 4 rfl rfl ?_
        refine gx_iload C dX_moveTogether_65 0 rfl ?_
        obtain ⟨h1, h2, h3, h4, h5, hs⟩ := hs
        refine gx_copy C xa_words ln_X_144 na_copy sm_copy in_java_lang_System h1 h2 h3 h4 h5 (Nat.le_of_ble_eq_true rfl) (Nat.le_of_ble_eq_true rfl) dX_moveTogether_67 (fun S11 eS11 => ?_)
        replace hs := hs S11 eS11
        refine gx_aload_n C dX_moveTogether_70 2 rfl rfl ?_
        refine gx_get C xo_this hi_X 1 (by decide) fl_X_22 rfl dX_moveTogether_71 ?_
        refine gx_iload C dX_moveTogether_74 1 rfl ?_
        refine gx_iload_n C dX_moveTogether_76 4 rfl rfl ?_
        obtain ⟨hin, hs⟩ := hs
        refine gx_iast C xa_addresses hin dX_moveTogether_77 (fun S12 eS12 => ?_)
        replace hs := hs S12 eS12
        refine gx_iinc (v0 := 1) (f := fun v => [(1, .int v), (5, .int r8), (4, .int r6), (0, .ref (o 0)), (2, .int v2), (3, .int v3)]) C dX_moveTogether_78 3 rfl (by decide) (by decide) (fun _ => rfl) (fun y13 ey13 => ?_)
        replace hs := hs y13 ey13
        refine gx_iload_n C dX_moveTogether_81 4 rfl rfl ?_
        refine gx_iload C dX_moveTogether_82 1 rfl ?_
        refine gx_iadd C dX_moveTogether_84 ?_
        refine gx_top (fun y14 ey14 => ?_)
        replace hs := hs y14 ey14
        refine gx_istore_n (L' := [(2, .int y14), (1, .int y13), (5, .int r8), (4, .int r6), (0, .ref (o 0)), (3, .int v3)]) C dX_moveTogether_85 rfl (by decide) rfl ?_
        refine gx_iinc (v0 := 1) (f := fun v => [(3, .int v), (2, .int y14), (1, .int y13), (5, .int r8), (4, .int r6), (0, .ref (o 0))]) C dX_moveTogether_86 5 rfl (by decide) (by decide) (fun _ => rfl) (fun y15 ey15 => ?_)
        replace hs := hs y15 ey15
        refine gx_goto C dX_moveTogether_89 6 rfl ?_
        exact gx_sub [5, 2, 1, 0] rfl hs
    · have hs := hf hc
      refine gx_goto C dX_moveTogether_27 92 rfl ?_
      refine gx_aload_n C dX_moveTogether_92 1 rfl rfl ?_
      refine gx_get C xo_this hi_X 4 (by decide) fl_X_36 rfl dX_moveTogether_93 ?_
      refine gx_callv (As := []) (rest := []) C (mt_F_clear l dC dI cI cZ o W E _ _ hs) (gx_cwV C 0 ln_X_150 im_F_clear se_F_clear in_CountedObjects_FreeChunks cd_F_clear rfl rfl (by decide +kernel) ⟨Nat.le_of_ble_eq_true rfl, Nat.le_of_ble_eq_true rfl⟩) xo_fc rfl (Nat.le_of_ble_eq_true rfl) dX_moveTogether_96 (fun S1 => xw_ad _ S1) rfl (fun S16 hs => ?_)
      refine gx_iload_n C dX_moveTogether_99 3 rfl rfl ?_
      refine gx_aload_n C dX_moveTogether_100 1 rfl rfl ?_
      refine gx_get C xo_this hi_X 0 (by decide) fl_X_18 rfl dX_moveTogether_101 ?_
      refine gx_alen C xa_words dX_moveTogether_104 ?_
      obtain ⟨ht, hf⟩ := hs
      refine gx_icmp_ge C dX_moveTogether_105 123 rfl (fun hc => ?_) (fun hc => ?_)
      · have hs := ht hc
        refine gx_iload_n C dX_moveTogether_123 2 rfl rfl ?_
        exact gx_iret C hr hlocks dX_moveTogether_124 hs
      · have hs := hf hc
        refine gx_aload_n C dX_moveTogether_108 1 rfl rfl ?_
        refine gx_get C xo_this hi_X 4 (by decide) fl_X_36 rfl dX_moveTogether_109 ?_
        refine gx_iload_n C dX_moveTogether_112 3 rfl rfl ?_
        refine gx_aload_n C dX_moveTogether_113 1 rfl rfl ?_
        refine gx_get C xo_this hi_X 0 (by decide) fl_X_18 rfl dX_moveTogether_114 ?_
        refine gx_alen C xa_words dX_moveTogether_117 ?_
        refine gx_iload_n C dX_moveTogether_118 3 rfl rfl ?_
        refine gx_isub C dX_moveTogether_119 ?_
        refine gx_callv (As := [.int v2, .int ((nI W) - v2)]) (rest := []) C (mt_F_add l dC dI cI cZ o W E _ _ _ _ hs) (gx_cwV C 2 ln_X_132 im_F_add se_F_add in_CountedObjects_FreeChunks cd_F_add rfl rfl (by decide +kernel) ⟨Nat.le_of_ble_eq_true rfl, Nat.le_of_ble_eq_true rfl⟩) xo_fc rfl (Nat.le_of_ble_eq_true rfl) dX_moveTogether_120 (fun S1 => xw_ad _ S1) rfl (fun S18 hs => ?_)
        refine gx_iload_n C dX_moveTogether_123 2 rfl rfl ?_
        exact gx_iret C hr hlocks dX_moveTogether_124 hs
set_option maxHeartbeats 4000000 in
set_option maxRecDepth 100000 in
theorem mt_X_moveTogether (l : Launch) (dC : Nat → ClassId) (dI : Nat → Nat → Nat) (cI cZ : ClassId) (o : Nat → Nat) (W E : Nat) (S : GS) (post : Int32 → GS → Prop) (h : wp_X_moveTogether W E [] S post) : MetI l yX_moveTogether (Cond.code yX_moveTogether cX_moveTogether 6 (some .int) :: wsA) ({ frames := 2, cells := 0, slots := 0, locals := 68 }) (dC, dI) gx_cl [(cI, .int), (cZ, .boolean)] (xw cI cZ o W E) [.ref (o 0)] S post := by
  refine gx_metI (by decide) wsA_good (Nat.le_of_ble_eq_true rfl) ?_
  intro p e s m args below meth c A C hr hlocks
  refine h (vh_X_moveTogether o (GV p l e { frames := 2, cells := 0, slots := 0, locals := 68 } s m args below meth c (MQ below (va_Qi post (GB (xw cI cZ o W E) (dC, dI) gx_cl [(cI, .int), (cZ, .boolean)] A) A) args s 0 0 A) 6 (dC, dI) gx_cl A (xw cI cZ o W E))) (fun h S xs hs => ?_)
  unfold sp_X_moveTogether at hs
  split at hs
  · exact wk_X_moveTogether_0 C hr hlocks _ hs
  · exact wk_X_moveTogether_6 C hr hlocks _ _ _ _ hs
  · exact hs.elim
/-- CountedObjects.place(I)I: a step from head to head -/
def sp_X_place (W E : Nat) (post : Int32 → GS → Prop) (V : Nat → GS → List Int32 → Prop) (h : Nat) (S : GS) (xs : List Int32) : Prop := match h, xs with
  | 0, [v1] => wp_F_take W E [v1] S (fun r2 S1 => ((¬ r2 = (-1) → post r2 S1) ∧ (r2 = (-1) → wp_F_allWords W E [] S1 (fun r4 S3 => ((r4 < v1 → post r2 S3) ∧ (¬ r4 < v1 → wp_X_moveTogether W E [] S3 (fun r6 S5 => wp_F_take W E [v1] S5 (fun r8 S7 => post r8 S7))))))))
  | _, _ => False
def wp_X_place (W E : Nat) (xs : List Int32) (S : GS) (post : Int32 → GS → Prop) : Prop := ∀ V : Nat → GS → List Int32 → Prop, (∀ h S xs, sp_X_place W E post V h S xs → V h S xs) → V 0 S xs
def vh_X_place (o : Nat → Nat) (G : GS → Nat → List (Nat × Value) → List Value → Prop) (h : Nat) (S : GS) (xs : List Int32) : Prop := match h, xs with
  | 0, [v1] => G S 0 [(0, .ref (o 0)), (1, .int v1)] []
  | _, _ => True
set_option maxHeartbeats 4000000 in
set_option maxRecDepth 100000 in
theorem wk_X_place_0 {l : Launch} {dC : Nat → ClassId} {dI : Nat → Nat → Nat} {cI cZ : ClassId} {o : Nat → Nat} {W E : Nat} {p : Program} {e : Env} {s : State} {m : MethodId} {args : Array Value} {below : List Frame} {meth : Method} {c : Code} {A : Nat → Prop} {post : Int32 → GS → Prop} (C : GC p s m args c cX_place 3 RX wsA (dC, dI) gx_cl [(cI, .int), (cZ, .boolean)] A) (hr : meth.sig.returnType = (some .int)) (hlocks : meth.locks = false) (S : GS) (v1 : Int32) (hs : sp_X_place W E post (vh_X_place o (GV p l e { frames := 3, cells := 0, slots := 0, locals := 113 } s m args below meth c (MQ below (va_Qi post (GB (xw cI cZ o W E) (dC, dI) gx_cl [(cI, .int), (cZ, .boolean)] A) A) args s 0 0 A) 3 (dC, dI) gx_cl A (xw cI cZ o W E))) 0 S [v1]) : GV p l e { frames := 3, cells := 0, slots := 0, locals := 113 } s m args below meth c (MQ below (va_Qi post (GB (xw cI cZ o W E) (dC, dI) gx_cl [(cI, .int), (cZ, .boolean)] A) A) args s 0 0 A) 3 (dC, dI) gx_cl A (xw cI cZ o W E) S 0 [(0, .ref (o 0)), (1, .int v1)] [] := by
  refine gx_aload_n C dX_place_0 0 rfl rfl ?_
  refine gx_get C xo_this hi_X 4 (by decide) fl_X_36 rfl dX_place_1 ?_
  refine gx_iload_n C dX_place_4 1 rfl rfl ?_
  refine gx_calli (As := [.int v1]) (rest := []) C (mt_F_take l dC dI cI cZ o W E _ _ _ hs) (gx_cwV C 1 ln_X_138 im_F_take se_F_take in_CountedObjects_FreeChunks cd_F_take rfl rfl (by decide +kernel) ⟨Nat.le_of_ble_eq_true rfl, Nat.le_of_ble_eq_true rfl⟩) xo_fc rfl (Nat.le_of_ble_eq_true rfl) dX_place_5 (fun S1 => xw_ad _ S1) rfl (fun r2 S1 hs => ?_)
  refine gx_istore_n (L' := [(2, .int r2), (0, .ref (o 0)), (1, .int v1)]) C dX_place_8 rfl (by decide) rfl ?_
  refine gx_iload_n C dX_place_9 0 rfl rfl ?_
  refine gx_iconst (v := (-1)) C dX_place_10 (by decide) ?_
  obtain ⟨ht, hf⟩ := hs
  refine gx_icmp_ne C dX_place_11 39 rfl (fun hc => ?_) (fun hc => ?_)
  · have hs := ht hc
    refine gx_iload_n C dX_place_39 0 rfl rfl ?_
    exact gx_iret C hr hlocks dX_place_40 hs
  · have hs := hf hc
    refine gx_aload_n C dX_place_14 1 rfl rfl ?_
    refine gx_get C xo_this hi_X 4 (by decide) fl_X_36 rfl dX_place_15 ?_
    refine gx_calli (As := []) (rest := []) C (mt_F_allWords l dC dI cI cZ o W E _ _ hs) (gx_cwV C 0 ln_X_117 im_F_allWords se_F_allWords in_CountedObjects_FreeChunks cd_F_allWords rfl rfl (by decide +kernel) ⟨Nat.le_of_ble_eq_true rfl, Nat.le_of_ble_eq_true rfl⟩) xo_fc rfl (Nat.le_of_ble_eq_true rfl) dX_place_18 (fun S1 => xw_ad _ S1) rfl (fun r4 S3 hs => ?_)
    refine gx_iload_n C dX_place_21 2 rfl rfl ?_
    obtain ⟨ht, hf⟩ := hs
    refine gx_icmp_lt C dX_place_22 39 rfl (fun hc => ?_) (fun hc => ?_)
    · have hs := ht hc
      refine gx_iload_n C dX_place_39 0 rfl rfl ?_
      exact gx_iret C hr hlocks dX_place_40 hs
    · have hs := hf hc
      refine gx_aload_n C dX_place_25 1 rfl rfl ?_
      refine gx_calli (As := []) (rest := []) C (mt_X_moveTogether l dC dI cI cZ o W E _ _ hs) (gx_cwV C 0 ln_X_108 im_X_moveTogether se_X_moveTogether in_CountedObjects cd_X_moveTogether rfl rfl (by decide +kernel) ⟨Nat.le_of_ble_eq_true rfl, Nat.le_of_ble_eq_true rfl⟩) xo_this rfl (Nat.le_of_ble_eq_true rfl) dX_place_26 (fun S1 => xw_ad _ S1) rfl (fun r6 S5 hs => ?_)
      refine gx_pop C dX_place_29 rfl ?_
      refine gx_aload_n C dX_place_30 1 rfl rfl ?_
      refine gx_get C xo_this hi_X 4 (by decide) fl_X_36 rfl dX_place_31 ?_
      refine gx_iload_n C dX_place_34 2 rfl rfl ?_
      refine gx_calli (As := [.int v1]) (rest := []) C (mt_F_take l dC dI cI cZ o W E _ _ _ hs) (gx_cwV C 1 ln_X_138 im_F_take se_F_take in_CountedObjects_FreeChunks cd_F_take rfl rfl (by decide +kernel) ⟨Nat.le_of_ble_eq_true rfl, Nat.le_of_ble_eq_true rfl⟩) xo_fc rfl (Nat.le_of_ble_eq_true rfl) dX_place_35 (fun S1 => xw_ad _ S1) rfl (fun r8 S7 hs => ?_)
      refine gx_istore_n (L' := [(2, .int r8), (0, .ref (o 0)), (1, .int v1)]) C dX_place_38 rfl (by decide) rfl ?_
      refine gx_iload_n C dX_place_39 0 rfl rfl ?_
      exact gx_iret C hr hlocks dX_place_40 hs
set_option maxHeartbeats 4000000 in
set_option maxRecDepth 100000 in
theorem mt_X_place (l : Launch) (dC : Nat → ClassId) (dI : Nat → Nat → Nat) (cI cZ : ClassId) (o : Nat → Nat) (W E : Nat) (v1 : Int32) (S : GS) (post : Int32 → GS → Prop) (h : wp_X_place W E [v1] S post) : MetI l yX_place (Cond.code yX_place cX_place 3 (some .int) :: wsA) ({ frames := 3, cells := 0, slots := 0, locals := 113 }) (dC, dI) gx_cl [(cI, .int), (cZ, .boolean)] (xw cI cZ o W E) [.ref (o 0), .int v1] S post := by
  refine gx_metI (by decide) wsA_good (Nat.le_of_ble_eq_true rfl) ?_
  intro p e s m args below meth c A C hr hlocks
  refine h (vh_X_place o (GV p l e { frames := 3, cells := 0, slots := 0, locals := 113 } s m args below meth c (MQ below (va_Qi post (GB (xw cI cZ o W E) (dC, dI) gx_cl [(cI, .int), (cZ, .boolean)] A) A) args s 0 0 A) 3 (dC, dI) gx_cl A (xw cI cZ o W E))) (fun h S xs hs => ?_)
  unfold sp_X_place at hs
  split at hs
  · exact wk_X_place_0 C hr hlocks _ _ hs
  · exact hs.elim
/-- CountedObjects.reach(I)V: a step from head to head -/
def sp_X_reach (W E : Nat) (post : GS → Prop) (V : Nat → GS → List Int32 → Prop) (h : Nat) (S : GS) (xs : List Int32) : Prop := match h, xs with
  | 0, [v1] => wp_X_isObject W E [v1] S (fun r2 S1 => ((r2 = 0 → post S1) ∧ (¬ r2 = 0 → (vp_in (v1 / 2) (E + 1) ∧ ((¬ (S1 4 (v1 / 2).toNatClampNeg) = 0 → post S1) ∧ ((S1 4 (v1 / 2).toNatClampNeg) = 0 → (vp_in (v1 / 2) (E + 1) ∧ ∀ S3 : GS, S3 = gx_set 4 (v1 / 2).toNatClampNeg 1 S1 → (vp_in (S3 100 1) E ∧ ∀ S4 : GS, S4 = gx_set 5 (S3 100 1).toNatClampNeg (v1 / 2) S3 → (∀ S5 : GS, S5 = gx_set 100 1 ((S4 100 1) + 1) S4 → post S5)))))))))
  | _, _ => False
def wp_X_reach (W E : Nat) (xs : List Int32) (S : GS) (post : GS → Prop) : Prop := ∀ V : Nat → GS → List Int32 → Prop, (∀ h S xs, sp_X_reach W E post V h S xs → V h S xs) → V 0 S xs
def vh_X_reach (o : Nat → Nat) (G : GS → Nat → List (Nat × Value) → List Value → Prop) (h : Nat) (S : GS) (xs : List Int32) : Prop := match h, xs with
  | 0, [v1] => G S 0 [(0, .ref (o 0)), (1, .int v1)] []
  | _, _ => True
set_option maxHeartbeats 4000000 in
set_option maxRecDepth 100000 in
theorem wk_X_reach_0 {l : Launch} {dC : Nat → ClassId} {dI : Nat → Nat → Nat} {cI cZ : ClassId} {o : Nat → Nat} {W E : Nat} {p : Program} {e : Env} {s : State} {m : MethodId} {args : Array Value} {below : List Frame} {meth : Method} {c : Code} {A : Nat → Prop} {post : GS → Prop} (C : GC p s m args c cX_reach 2 RX wsA (dC, dI) gx_cl [(cI, .int), (cZ, .boolean)] A) (hr : meth.sig.returnType = none) (hlocks : meth.locks = false) (S : GS) (v1 : Int32) (hs : sp_X_reach W E post (vh_X_reach o (GV p l e { frames := 2, cells := 0, slots := 0, locals := 42 } s m args below meth c (MQ below (va_Qv post (GB (xw cI cZ o W E) (dC, dI) gx_cl [(cI, .int), (cZ, .boolean)] A) A) args s 0 0 A) 2 (dC, dI) gx_cl A (xw cI cZ o W E))) 0 S [v1]) : GV p l e { frames := 2, cells := 0, slots := 0, locals := 42 } s m args below meth c (MQ below (va_Qv post (GB (xw cI cZ o W E) (dC, dI) gx_cl [(cI, .int), (cZ, .boolean)] A) A) args s 0 0 A) 2 (dC, dI) gx_cl A (xw cI cZ o W E) S 0 [(0, .ref (o 0)), (1, .int v1)] [] := by
  refine gx_aload_n C dX_reach_0 0 rfl rfl ?_
  refine gx_iload_n C dX_reach_1 1 rfl rfl ?_
  refine gx_calli (As := [.int v1]) (rest := []) C (mt_X_isObject l dC dI cI cZ o W E _ _ _ hs) (gx_cwV C 1 ln_X_87 im_X_isObject se_X_isObject in_CountedObjects cd_X_isObject rfl rfl (by decide +kernel) ⟨Nat.le_of_ble_eq_true rfl, Nat.le_of_ble_eq_true rfl⟩) xo_this rfl (Nat.le_of_ble_eq_true rfl) dX_reach_2 (fun S1 => xw_ad _ S1) rfl (fun r2 S1 hs => ?_)
  obtain ⟨ht, hf⟩ := hs
  refine gx_if_eq C dX_reach_5 50 rfl (fun hc => ?_) (fun hc => ?_)
  · have hs := ht hc
    exact gx_vret C hr hlocks dX_reach_50 hs
  · have hs := hf hc
    refine gx_aload_n C dX_reach_8 0 rfl rfl ?_
    refine gx_get C xo_this hi_X 5 (by decide) fl_X_40 rfl dX_reach_9 ?_
    refine gx_iload_n C dX_reach_12 1 rfl rfl ?_
    refine gx_iconst (v := 2) C dX_reach_13 (by decide) ?_
    refine gx_idiv C dX_reach_14 (by decide) ?_
    obtain ⟨hin, hs⟩ := hs
    refine gx_zald C xa_isReached hin dX_reach_15 ?_
    obtain ⟨ht, hf⟩ := hs
    refine gx_if_ne C dX_reach_16 50 rfl (fun hc => ?_) (fun hc => ?_)
    · have hs := ht hc
      exact gx_vret C hr hlocks dX_reach_50 hs
    · have hs := hf hc
      refine gx_aload_n C dX_reach_19 0 rfl rfl ?_
      refine gx_get C xo_this hi_X 5 (by decide) fl_X_40 rfl dX_reach_20 ?_
      refine gx_iload_n C dX_reach_23 1 rfl rfl ?_
      refine gx_iconst (v := 2) C dX_reach_24 (by decide) ?_
      refine gx_idiv C dX_reach_25 (by decide) ?_
      refine gx_iconst (v := 1) C dX_reach_26 (by decide) ?_
      obtain ⟨hin, hs⟩ := hs
      refine gx_zast C xa_isReached hin (by decide) dX_reach_27 (fun S3 eS3 => ?_)
      replace hs := hs S3 eS3
      refine gx_aload_n C dX_reach_28 0 rfl rfl ?_
      refine gx_get C xo_this hi_X 6 (by decide) fl_X_44 rfl dX_reach_29 ?_
      refine gx_aload_n C dX_reach_32 0 rfl rfl ?_
      refine gx_get C xo_this hi_X 7 (by decide) fl_X_47 rfl dX_reach_33 ?_
      refine gx_iload_n C dX_reach_36 1 rfl rfl ?_
      refine gx_iconst (v := 2) C dX_reach_37 (by decide) ?_
      refine gx_idiv C dX_reach_38 (by decide) ?_
      obtain ⟨hin, hs⟩ := hs
      refine gx_iast C xa_reachedEntries hin dX_reach_39 (fun S4 eS4 => ?_)
      replace hs := hs S4 eS4
      refine gx_aload_n C dX_reach_40 0 rfl rfl ?_
      refine gx_dup C dX_reach_41 rfl ?_
      refine gx_get C xo_this hi_X 7 (by decide) fl_X_47 rfl dX_reach_42 ?_
      refine gx_iconst (v := 1) C dX_reach_45 (by decide) ?_
      refine gx_iadd C dX_reach_46 ?_
      refine gx_put C xo_this hi_X tyX tyX_ok nmX 7 (by decide) fl_X_47 rfl (by decide +kernel) (Nat.le_of_ble_eq_true rfl) (xp_reachedHeld _ _) dX_reach_47 (fun S5 eS5 => ?_)
      replace hs := hs S5 eS5
      exact gx_vret C hr hlocks dX_reach_50 hs
set_option maxHeartbeats 4000000 in
set_option maxRecDepth 100000 in
theorem mt_X_reach (l : Launch) (dC : Nat → ClassId) (dI : Nat → Nat → Nat) (cI cZ : ClassId) (o : Nat → Nat) (W E : Nat) (v1 : Int32) (S : GS) (post : GS → Prop) (h : wp_X_reach W E [v1] S post) : MetV l yX_reach (Cond.code yX_reach cX_reach 2 none :: wsA) ({ frames := 2, cells := 0, slots := 0, locals := 42 }) (dC, dI) gx_cl [(cI, .int), (cZ, .boolean)] (xw cI cZ o W E) [.ref (o 0), .int v1] S post := by
  refine gx_metV (by decide) wsA_good (Nat.le_of_ble_eq_true rfl) ?_
  intro p e s m args below meth c A C hr hlocks
  refine h (vh_X_reach o (GV p l e { frames := 2, cells := 0, slots := 0, locals := 42 } s m args below meth c (MQ below (va_Qv post (GB (xw cI cZ o W E) (dC, dI) gx_cl [(cI, .int), (cZ, .boolean)] A) A) args s 0 0 A) 2 (dC, dI) gx_cl A (xw cI cZ o W E))) (fun h S xs hs => ?_)
  unfold sp_X_reach at hs
  split at hs
  · exact wk_X_reach_0 C hr hlocks _ _ hs
  · exact hs.elim
/-- CountedObjects.findReached(I)V: a step from head to head -/
def sp_X_findReached (W E : Nat) (post : GS → Prop) (V : Nat → GS → List Int32 → Prop) (h : Nat) (S : GS) (xs : List Int32) : Prop := match h, xs with
  | 0, [v1] => ∀ y1 : Int32, y1 = 1 → V 2 S [v1, y1]
  | 2, [v1, v2] => (((nI (E + 1)) ≤ v2 → (∀ S1 : GS, S1 = gx_set 100 1 0 S → ∀ y2 : Int32, y2 = 0 → V 31 S1 [v1, y2])) ∧ (¬ (nI (E + 1)) ≤ v2 → (vp_in v2 (E + 1) ∧ ∀ S3 : GS, S3 = gx_set 4 (v2).toNatClampNeg 0 S → (∀ y4 : Int32, y4 = v2 + 1 → V 2 S3 [v1, y4]))))
  | 31, [v1, v2] => ((8 ≤ v2 → wp_X_reach W E [v1] S (fun S1 => ∀ y3 : Int32, y3 = 0 → V 60 S1 [v1, y3])) ∧ (¬ 8 ≤ v2 → (vp_in v2 8 ∧ wp_X_reach W E [S 3 (v2).toNatClampNeg] S (fun S4 => (∀ y6 : Int32, y6 = v2 + 1 → V 31 S4 [v1, y6])))))
  | 60, [v1, v2] => (((S 100 1) ≤ v2 → post S) ∧ (¬ (S 100 1) ≤ v2 → (((nI E) ≤ v2 → post S) ∧ (¬ (nI E) ≤ v2 → (vp_in v2 E ∧ ∀ y1 : Int32, y1 = S 5 (v2).toNatClampNeg → (vp_in y1 (E + 1) ∧ wp_X_wordsOf W E [y1] S (fun r3 S2 => ∀ y4 : Int32, y4 = (S 1 (y1).toNatClampNeg) + r3 → (vp_in y1 (E + 1) ∧ ∀ y5 : Int32, y5 = (S2 1 (y1).toNatClampNeg) + 1 → V 108 S2 [v1, v2, y1, y4, y5]))))))))
  | 108, [v1, v2, v3, v4, v5] => ((v4 ≤ v5 → (∀ y1 : Int32, y1 = v2 + 1 → V 60 S [v1, y1])) ∧ (¬ v4 ≤ v5 → (vp_in v5 W ∧ wp_X_reach W E [S 0 (v5).toNatClampNeg] S (fun S2 => (∀ y4 : Int32, y4 = v5 + 1 → V 108 S2 [v1, v2, v3, v4, y4])))))
  | _, _ => False
def wp_X_findReached (W E : Nat) (xs : List Int32) (S : GS) (post : GS → Prop) : Prop := ∀ V : Nat → GS → List Int32 → Prop, (∀ h S xs, sp_X_findReached W E post V h S xs → V h S xs) → V 0 S xs
def vh_X_findReached (o : Nat → Nat) (G : GS → Nat → List (Nat × Value) → List Value → Prop) (h : Nat) (S : GS) (xs : List Int32) : Prop := match h, xs with
  | 0, [v1] => G S 0 [(0, .ref (o 0)), (1, .int v1)] []
  | 2, [v1, v2] => G S 2 [(0, .ref (o 0)), (1, .int v1), (2, .int v2)] []
  | 31, [v1, v2] => G S 31 [(0, .ref (o 0)), (1, .int v1), (2, .int v2)] []
  | 60, [v1, v2] => G S 60 [(0, .ref (o 0)), (1, .int v1), (2, .int v2)] []
  | 108, [v1, v2, v3, v4, v5] => G S 108 [(0, .ref (o 0)), (1, .int v1), (2, .int v2), (3, .int v3), (4, .int v4), (5, .int v5)] []
  | _, _ => True
set_option maxHeartbeats 4000000 in
set_option maxRecDepth 100000 in
theorem wk_X_findReached_0 {l : Launch} {dC : Nat → ClassId} {dI : Nat → Nat → Nat} {cI cZ : ClassId} {o : Nat → Nat} {W E : Nat} {p : Program} {e : Env} {s : State} {m : MethodId} {args : Array Value} {below : List Frame} {meth : Method} {c : Code} {A : Nat → Prop} {post : GS → Prop} (C : GC p s m args c cX_findReached 6 RX wsA (dC, dI) gx_cl [(cI, .int), (cZ, .boolean)] A) (hr : meth.sig.returnType = none) (hlocks : meth.locks = false) (S : GS) (v1 : Int32) (hs : sp_X_findReached W E post (vh_X_findReached o (GV p l e { frames := 3, cells := 0, slots := 0, locals := 63 } s m args below meth c (MQ below (va_Qv post (GB (xw cI cZ o W E) (dC, dI) gx_cl [(cI, .int), (cZ, .boolean)] A) A) args s 0 0 A) 6 (dC, dI) gx_cl A (xw cI cZ o W E))) 0 S [v1]) : GV p l e { frames := 3, cells := 0, slots := 0, locals := 63 } s m args below meth c (MQ below (va_Qv post (GB (xw cI cZ o W E) (dC, dI) gx_cl [(cI, .int), (cZ, .boolean)] A) A) args s 0 0 A) 6 (dC, dI) gx_cl A (xw cI cZ o W E) S 0 [(0, .ref (o 0)), (1, .int v1)] [] := by
  refine gx_iconst (v := 1) C dX_findReached_0 (by decide) ?_
  refine gx_top (fun y1 ey1 => ?_)
  replace hs := hs y1 ey1
  refine gx_istore_n (L' := [(2, .int y1), (0, .ref (o 0)), (1, .int v1)]) C dX_findReached_1 rfl (by decide) rfl ?_
  exact gx_sub [1, 2, 0] rfl hs
set_option maxHeartbeats 4000000 in
set_option maxRecDepth 100000 in
theorem wk_X_findReached_2 {l : Launch} {dC : Nat → ClassId} {dI : Nat → Nat → Nat} {cI cZ : ClassId} {o : Nat → Nat} {W E : Nat} {p : Program} {e : Env} {s : State} {m : MethodId} {args : Array Value} {below : List Frame} {meth : Method} {c : Code} {A : Nat → Prop} {post : GS → Prop} (C : GC p s m args c cX_findReached 6 RX wsA (dC, dI) gx_cl [(cI, .int), (cZ, .boolean)] A) (hr : meth.sig.returnType = none) (hlocks : meth.locks = false) (S : GS) (v1 : Int32) (v2 : Int32) (hs : sp_X_findReached W E post (vh_X_findReached o (GV p l e { frames := 3, cells := 0, slots := 0, locals := 63 } s m args below meth c (MQ below (va_Qv post (GB (xw cI cZ o W E) (dC, dI) gx_cl [(cI, .int), (cZ, .boolean)] A) A) args s 0 0 A) 6 (dC, dI) gx_cl A (xw cI cZ o W E))) 2 S [v1, v2]) : GV p l e { frames := 3, cells := 0, slots := 0, locals := 63 } s m args below meth c (MQ below (va_Qv post (GB (xw cI cZ o W E) (dC, dI) gx_cl [(cI, .int), (cZ, .boolean)] A) A) args s 0 0 A) 6 (dC, dI) gx_cl A (xw cI cZ o W E) S 2 [(0, .ref (o 0)), (1, .int v1), (2, .int v2)] [] := by
  refine gx_iload_n C dX_findReached_2 2 rfl rfl ?_
  refine gx_aload_n C dX_findReached_3 0 rfl rfl ?_
  refine gx_get C xo_this hi_X 5 (by decide) fl_X_40 rfl dX_findReached_4 ?_
  refine gx_alen C xa_isReached dX_findReached_7 ?_
  obtain ⟨ht, hf⟩ := hs
  refine gx_icmp_ge C dX_findReached_8 24 rfl (fun hc => ?_) (fun hc => ?_)
  · have hs := ht hc
    refine gx_aload_n C dX_findReached_24 0 rfl rfl ?_
    refine gx_iconst (v := 0) C dX_findReached_25 (by decide) ?_
    refine gx_put C xo_this hi_X tyX tyX_ok nmX 7 (by decide) fl_X_47 rfl (by decide +kernel) (Nat.le_of_ble_eq_true rfl) (xp_reachedHeld _ _) dX_findReached_26 (fun S1 eS1 => ?_)
    replace hs := hs S1 eS1
    refine gx_iconst (v := 0) C dX_findReached_29 (by decide) ?_
    refine gx_top (fun y2 ey2 => ?_)
    replace hs := hs y2 ey2
    refine gx_istore_n (L' := [(2, .int y2), (0, .ref (o 0)), (1, .int v1)]) C dX_findReached_30 rfl (by decide) rfl ?_
    exact gx_sub [1, 2, 0] rfl hs
  · have hs := hf hc
    refine gx_aload_n C dX_findReached_11 0 rfl rfl ?_
    refine gx_get C xo_this hi_X 5 (by decide) fl_X_40 rfl dX_findReached_12 ?_
    refine gx_iload_n C dX_findReached_15 2 rfl rfl ?_
    refine gx_iconst (v := 0) C dX_findReached_16 (by decide) ?_
    obtain ⟨hin, hs⟩ := hs
    refine gx_zast C xa_isReached hin (by decide) dX_findReached_17 (fun S3 eS3 => ?_)
    replace hs := hs S3 eS3
    refine gx_iinc (v0 := 1) (f := fun v => [(2, .int v), (0, .ref (o 0)), (1, .int v1)]) C dX_findReached_18 2 rfl (by decide) (by decide) (fun _ => rfl) (fun y4 ey4 => ?_)
    replace hs := hs y4 ey4
    refine gx_goto C dX_findReached_21 2 rfl ?_
    exact gx_sub [1, 2, 0] rfl hs
set_option maxHeartbeats 4000000 in
set_option maxRecDepth 100000 in
theorem wk_X_findReached_31 {l : Launch} {dC : Nat → ClassId} {dI : Nat → Nat → Nat} {cI cZ : ClassId} {o : Nat → Nat} {W E : Nat} {p : Program} {e : Env} {s : State} {m : MethodId} {args : Array Value} {below : List Frame} {meth : Method} {c : Code} {A : Nat → Prop} {post : GS → Prop} (C : GC p s m args c cX_findReached 6 RX wsA (dC, dI) gx_cl [(cI, .int), (cZ, .boolean)] A) (hr : meth.sig.returnType = none) (hlocks : meth.locks = false) (S : GS) (v1 : Int32) (v2 : Int32) (hs : sp_X_findReached W E post (vh_X_findReached o (GV p l e { frames := 3, cells := 0, slots := 0, locals := 63 } s m args below meth c (MQ below (va_Qv post (GB (xw cI cZ o W E) (dC, dI) gx_cl [(cI, .int), (cZ, .boolean)] A) A) args s 0 0 A) 6 (dC, dI) gx_cl A (xw cI cZ o W E))) 31 S [v1, v2]) : GV p l e { frames := 3, cells := 0, slots := 0, locals := 63 } s m args below meth c (MQ below (va_Qv post (GB (xw cI cZ o W E) (dC, dI) gx_cl [(cI, .int), (cZ, .boolean)] A) A) args s 0 0 A) 6 (dC, dI) gx_cl A (xw cI cZ o W E) S 31 [(0, .ref (o 0)), (1, .int v1), (2, .int v2)] [] := by
  refine gx_iload_n C dX_findReached_31 2 rfl rfl ?_
  refine gx_bipush (v := 8) C dX_findReached_32 (by decide) ?_
  obtain ⟨ht, hf⟩ := hs
  refine gx_icmp_ge C dX_findReached_34 53 rfl (fun hc => ?_) (fun hc => ?_)
  · have hs := ht hc
    refine gx_aload_n C dX_findReached_53 0 rfl rfl ?_
    refine gx_iload_n C dX_findReached_54 1 rfl rfl ?_
    refine gx_callv (As := [.int v1]) (rest := []) C (mt_X_reach l dC dI cI cZ o W E _ _ _ hs) (gx_cwV C 1 ln_X_159 im_X_reach se_X_reach in_CountedObjects cd_X_reach rfl rfl (by decide +kernel) ⟨Nat.le_of_ble_eq_true rfl, Nat.le_of_ble_eq_true rfl⟩) xo_this rfl (Nat.le_of_ble_eq_true rfl) dX_findReached_55 (fun S1 => xw_ad _ S1) rfl (fun S1 hs => ?_)
    refine gx_iconst (v := 0) C dX_findReached_58 (by decide) ?_
    refine gx_top (fun y3 ey3 => ?_)
    replace hs := hs y3 ey3
    refine gx_istore_n (L' := [(2, .int y3), (0, .ref (o 0)), (1, .int v1)]) C dX_findReached_59 rfl (by decide) rfl ?_
    exact gx_sub [1, 2, 0] rfl hs
  · have hs := hf hc
    refine gx_aload_n C dX_findReached_37 0 rfl rfl ?_
    refine gx_aload_n C dX_findReached_38 0 rfl rfl ?_
    refine gx_get C xo_this hi_X 3 (by decide) fl_X_28 rfl dX_findReached_39 ?_
    refine gx_iload_n C dX_findReached_42 2 rfl rfl ?_
    obtain ⟨hin, hs⟩ := hs
    refine gx_iald C xa_registers hin dX_findReached_43 ?_
    refine gx_callv (As := [.int (S 3 (v2).toNatClampNeg)]) (rest := []) C (mt_X_reach l dC dI cI cZ o W E _ _ _ hs) (gx_cwV C 1 ln_X_159 im_X_reach se_X_reach in_CountedObjects cd_X_reach rfl rfl (by decide +kernel) ⟨Nat.le_of_ble_eq_true rfl, Nat.le_of_ble_eq_true rfl⟩) xo_this rfl (Nat.le_of_ble_eq_true rfl) dX_findReached_44 (fun S1 => xw_ad _ S1) rfl (fun S4 hs => ?_)
    refine gx_iinc (v0 := 1) (f := fun v => [(2, .int v), (0, .ref (o 0)), (1, .int v1)]) C dX_findReached_47 2 rfl (by decide) (by decide) (fun _ => rfl) (fun y6 ey6 => ?_)
    replace hs := hs y6 ey6
    refine gx_goto C dX_findReached_50 31 rfl ?_
    exact gx_sub [1, 2, 0] rfl hs
set_option maxHeartbeats 4000000 in
set_option maxRecDepth 100000 in
theorem wk_X_findReached_60 {l : Launch} {dC : Nat → ClassId} {dI : Nat → Nat → Nat} {cI cZ : ClassId} {o : Nat → Nat} {W E : Nat} {p : Program} {e : Env} {s : State} {m : MethodId} {args : Array Value} {below : List Frame} {meth : Method} {c : Code} {A : Nat → Prop} {post : GS → Prop} (C : GC p s m args c cX_findReached 6 RX wsA (dC, dI) gx_cl [(cI, .int), (cZ, .boolean)] A) (hr : meth.sig.returnType = none) (hlocks : meth.locks = false) (S : GS) (v1 : Int32) (v2 : Int32) (hs : sp_X_findReached W E post (vh_X_findReached o (GV p l e { frames := 3, cells := 0, slots := 0, locals := 63 } s m args below meth c (MQ below (va_Qv post (GB (xw cI cZ o W E) (dC, dI) gx_cl [(cI, .int), (cZ, .boolean)] A) A) args s 0 0 A) 6 (dC, dI) gx_cl A (xw cI cZ o W E))) 60 S [v1, v2]) : GV p l e { frames := 3, cells := 0, slots := 0, locals := 63 } s m args below meth c (MQ below (va_Qv post (GB (xw cI cZ o W E) (dC, dI) gx_cl [(cI, .int), (cZ, .boolean)] A) A) args s 0 0 A) 6 (dC, dI) gx_cl A (xw cI cZ o W E) S 60 [(0, .ref (o 0)), (1, .int v1), (2, .int v2)] [] := by
  refine gx_iload_n C dX_findReached_60 2 rfl rfl ?_
  refine gx_aload_n C dX_findReached_61 0 rfl rfl ?_
  refine gx_get C xo_this hi_X 7 (by decide) fl_X_47 rfl dX_findReached_62 ?_
  obtain ⟨ht, hf⟩ := hs
  refine gx_icmp_ge C dX_findReached_65 138 rfl (fun hc => ?_) (fun hc => ?_)
  · have hs := ht hc
    exact gx_vret C hr hlocks dX_findReached_138 hs
  · have hs := hf hc
    refine gx_iload_n C dX_findReached_68 2 rfl rfl ?_
    refine gx_aload_n C dX_findReached_69 0 rfl rfl ?_
    refine gx_get C xo_this hi_X 6 (by decide) fl_X_44 rfl dX_findReached_70 ?_
    refine gx_alen C xa_reachedEntries dX_findReached_73 ?_
    obtain ⟨ht, hf⟩ := hs
    refine gx_icmp_ge C dX_findReached_74 138 rfl (fun hc => ?_) (fun hc => ?_)
    · have hs := ht hc
      exact gx_vret C hr hlocks dX_findReached_138 hs
    · have hs := hf hc
      refine gx_aload_n C dX_findReached_77 0 rfl rfl ?_
      refine gx_get C xo_this hi_X 6 (by decide) fl_X_44 rfl dX_findReached_78 ?_
      refine gx_iload_n C dX_findReached_81 2 rfl rfl ?_
      obtain ⟨hin, hs⟩ := hs
      refine gx_iald C xa_reachedEntries hin dX_findReached_82 ?_
      refine gx_top (fun y1 ey1 => ?_)
      replace hs := hs y1 ey1
      refine gx_istore_n (L' := [(3, .int y1), (0, .ref (o 0)), (1, .int v1), (2, .int v2)]) C dX_findReached_83 rfl (by decide) rfl ?_
      refine gx_aload_n C dX_findReached_84 1 rfl rfl ?_
      refine gx_get C xo_this hi_X 1 (by decide) fl_X_22 rfl dX_findReached_85 ?_
      refine gx_iload_n C dX_findReached_88 0 rfl rfl ?_
      obtain ⟨hin, hs⟩ := hs
      refine gx_iald C xa_addresses hin dX_findReached_89 ?_
      refine gx_aload_n C dX_findReached_90 1 rfl rfl ?_
      refine gx_iload_n C dX_findReached_91 0 rfl rfl ?_
      refine gx_calli (As := [.int y1]) (rest := [.int (S 1 (y1).toNatClampNeg)]) C (mt_X_wordsOf l dC dI cI cZ o W E _ _ _ hs) (gx_cwV C 1 ln_X_126 im_X_wordsOf se_X_wordsOf in_CountedObjects cd_X_wordsOf rfl rfl (by decide +kernel) ⟨Nat.le_of_ble_eq_true rfl, Nat.le_of_ble_eq_true rfl⟩) xo_this rfl (Nat.le_of_ble_eq_true rfl) dX_findReached_92 (fun S1 => xw_ad _ S1) rfl (fun r3 S2 hs => ?_)
      refine gx_iadd C dX_findReached_95 ?_
      refine gx_top (fun y4 ey4 => ?_)
      replace hs := hs y4 ey4
      refine gx_istore (L' := [(4, .int y4), (3, .int y1), (0, .ref (o 0)), (1, .int v1), (2, .int v2)]) C dX_findReached_96 (by decide) rfl ?_
      refine gx_aload_n C dX_findReached_98 2 rfl rfl ?_
      refine gx_get C xo_this hi_X 1 (by decide) fl_X_22 rfl dX_findReached_99 ?_
      refine gx_iload_n C dX_findReached_102 1 rfl rfl ?_
      obtain ⟨hin, hs⟩ := hs
      refine gx_iald C xa_addresses hin dX_findReached_103 ?_
      refine gx_iconst (v := 1) C dX_findReached_104 (by decide) ?_
      refine gx_iadd C dX_findReached_105 ?_
      refine gx_top (fun y5 ey5 => ?_)
      replace hs := hs y5 ey5
      refine gx_istore (L' := [(5, .int y5), (4, .int y4), (3, .int y1), (0, .ref (o 0)), (1, .int v1), (2, .int v2)]) C dX_findReached_106 (by decide) rfl ?_
      exact gx_sub [3, 4, 5, 2, 1, 0] rfl hs
set_option maxHeartbeats 4000000 in
set_option maxRecDepth 100000 in
theorem wk_X_findReached_108 {l : Launch} {dC : Nat → ClassId} {dI : Nat → Nat → Nat} {cI cZ : ClassId} {o : Nat → Nat} {W E : Nat} {p : Program} {e : Env} {s : State} {m : MethodId} {args : Array Value} {below : List Frame} {meth : Method} {c : Code} {A : Nat → Prop} {post : GS → Prop} (C : GC p s m args c cX_findReached 6 RX wsA (dC, dI) gx_cl [(cI, .int), (cZ, .boolean)] A) (hr : meth.sig.returnType = none) (hlocks : meth.locks = false) (S : GS) (v1 : Int32) (v2 : Int32) (v3 : Int32) (v4 : Int32) (v5 : Int32) (hs : sp_X_findReached W E post (vh_X_findReached o (GV p l e { frames := 3, cells := 0, slots := 0, locals := 63 } s m args below meth c (MQ below (va_Qv post (GB (xw cI cZ o W E) (dC, dI) gx_cl [(cI, .int), (cZ, .boolean)] A) A) args s 0 0 A) 6 (dC, dI) gx_cl A (xw cI cZ o W E))) 108 S [v1, v2, v3, v4, v5]) : GV p l e { frames := 3, cells := 0, slots := 0, locals := 63 } s m args below meth c (MQ below (va_Qv post (GB (xw cI cZ o W E) (dC, dI) gx_cl [(cI, .int), (cZ, .boolean)] A) A) args s 0 0 A) 6 (dC, dI) gx_cl A (xw cI cZ o W E) S 108 [(0, .ref (o 0)), (1, .int v1), (2, .int v2), (3, .int v3), (4, .int v4), (5, .int v5)] [] := by
  refine gx_iload C dX_findReached_108 5 rfl ?_
  refine gx_iload C dX_findReached_110 4 rfl ?_
  obtain ⟨ht, hf⟩ := hs
  refine gx_icmp_ge C dX_findReached_112 132 rfl (fun hc => ?_) (fun hc => ?_)
  · have hs := ht hc
    refine gx_iinc (v0 := 1) (f := fun v => [(2, .int v), (0, .ref (o 0)), (1, .int v1), (3, .int v3), (4, .int v4), (5, .int v5)]) C dX_findReached_132 2 rfl (by decide) (by decide) (fun _ => rfl) (fun y1 ey1 => ?_)
    replace hs := hs y1 ey1
    refine gx_goto C dX_findReached_135 60 rfl ?_
    exact gx_sub [1, 2, 0] rfl hs
  · have hs := hf hc
    refine gx_aload_n C dX_findReached_115 0 rfl rfl ?_
    refine gx_aload_n C dX_findReached_116 0 rfl rfl ?_
    refine gx_get C xo_this hi_X 0 (by decide) fl_X_18 rfl dX_findReached_117 ?_
    refine gx_iload C dX_findReached_120 5 rfl ?_
    obtain ⟨hin, hs⟩ := hs
    refine gx_iald C xa_words hin dX_findReached_122 ?_
    refine gx_callv (As := [.int (S 0 (v5).toNatClampNeg)]) (rest := []) C (mt_X_reach l dC dI cI cZ o W E _ _ _ hs) (gx_cwV C 1 ln_X_159 im_X_reach se_X_reach in_CountedObjects cd_X_reach rfl rfl (by decide +kernel) ⟨Nat.le_of_ble_eq_true rfl, Nat.le_of_ble_eq_true rfl⟩) xo_this rfl (Nat.le_of_ble_eq_true rfl) dX_findReached_123 (fun S1 => xw_ad _ S1) rfl (fun S2 hs => ?_)
    refine gx_iinc (v0 := 1) (f := fun v => [(5, .int v), (0, .ref (o 0)), (1, .int v1), (2, .int v2), (3, .int v3), (4, .int v4)]) C dX_findReached_126 5 rfl (by decide) (by decide) (fun _ => rfl) (fun y4 ey4 => ?_)
    replace hs := hs y4 ey4
    refine gx_goto C dX_findReached_129 108 rfl ?_
    exact gx_sub [1, 2, 3, 4, 5, 0] rfl hs
set_option maxHeartbeats 4000000 in
set_option maxRecDepth 100000 in
theorem mt_X_findReached (l : Launch) (dC : Nat → ClassId) (dI : Nat → Nat → Nat) (cI cZ : ClassId) (o : Nat → Nat) (W E : Nat) (v1 : Int32) (S : GS) (post : GS → Prop) (h : wp_X_findReached W E [v1] S post) : MetV l yX_findReached (Cond.code yX_findReached cX_findReached 6 none :: wsA) ({ frames := 3, cells := 0, slots := 0, locals := 63 }) (dC, dI) gx_cl [(cI, .int), (cZ, .boolean)] (xw cI cZ o W E) [.ref (o 0), .int v1] S post := by
  refine gx_metV (by decide) wsA_good (Nat.le_of_ble_eq_true rfl) ?_
  intro p e s m args below meth c A C hr hlocks
  refine h (vh_X_findReached o (GV p l e { frames := 3, cells := 0, slots := 0, locals := 63 } s m args below meth c (MQ below (va_Qv post (GB (xw cI cZ o W E) (dC, dI) gx_cl [(cI, .int), (cZ, .boolean)] A) A) args s 0 0 A) 6 (dC, dI) gx_cl A (xw cI cZ o W E))) (fun h S xs hs => ?_)
  unfold sp_X_findReached at hs
  split at hs
  · exact wk_X_findReached_0 C hr hlocks _ _ hs
  · exact wk_X_findReached_2 C hr hlocks _ _ _ hs
  · exact wk_X_findReached_31 C hr hlocks _ _ _ hs
  · exact wk_X_findReached_60 C hr hlocks _ _ _ hs
  · exact wk_X_findReached_108 C hr hlocks _ _ _ _ _ _ hs
  · exact hs.elim
/-- CountedObjects.compact()I: a step from head to head -/
def sp_X_compact (W E : Nat) (post : Int32 → GS → Prop) (V : Nat → GS → List Int32 → Prop) (h : Nat) (S : GS) (xs : List Int32) : Prop := match h, xs with
  | 0, [] => wp_X_moveTogether W E [] S (fun r2 S1 => post r2 S1)
  | _, _ => False
def wp_X_compact (W E : Nat) (xs : List Int32) (S : GS) (post : Int32 → GS → Prop) : Prop := ∀ V : Nat → GS → List Int32 → Prop, (∀ h S xs, sp_X_compact W E post V h S xs → V h S xs) → V 0 S xs
def vh_X_compact (o : Nat → Nat) (G : GS → Nat → List (Nat × Value) → List Value → Prop) (h : Nat) (S : GS) (xs : List Int32) : Prop := match h, xs with
  | 0, [] => G S 0 [(0, .ref (o 0))] []
  | _, _ => True
set_option maxHeartbeats 4000000 in
set_option maxRecDepth 100000 in
theorem wk_X_compact_0 {l : Launch} {dC : Nat → ClassId} {dI : Nat → Nat → Nat} {cI cZ : ClassId} {o : Nat → Nat} {W E : Nat} {p : Program} {e : Env} {s : State} {m : MethodId} {args : Array Value} {below : List Frame} {meth : Method} {c : Code} {A : Nat → Prop} {post : Int32 → GS → Prop} (C : GC p s m args c cX_compact 1 RX wsA (dC, dI) gx_cl [(cI, .int), (cZ, .boolean)] A) (hr : meth.sig.returnType = (some .int)) (hlocks : meth.locks = false) (S : GS) (hs : sp_X_compact W E post (vh_X_compact o (GV p l e { frames := 3, cells := 0, slots := 0, locals := 93 } s m args below meth c (MQ below (va_Qi post (GB (xw cI cZ o W E) (dC, dI) gx_cl [(cI, .int), (cZ, .boolean)] A) A) args s 0 0 A) 1 (dC, dI) gx_cl A (xw cI cZ o W E))) 0 S []) : GV p l e { frames := 3, cells := 0, slots := 0, locals := 93 } s m args below meth c (MQ below (va_Qi post (GB (xw cI cZ o W E) (dC, dI) gx_cl [(cI, .int), (cZ, .boolean)] A) A) args s 0 0 A) 1 (dC, dI) gx_cl A (xw cI cZ o W E) S 0 [(0, .ref (o 0))] [] := by
  refine gx_aload_n C dX_compact_0 0 rfl rfl ?_
  refine gx_calli (As := []) (rest := []) C (mt_X_moveTogether l dC dI cI cZ o W E _ _ hs) (gx_cwV C 0 ln_X_108 im_X_moveTogether se_X_moveTogether in_CountedObjects cd_X_moveTogether rfl rfl (by decide +kernel) ⟨Nat.le_of_ble_eq_true rfl, Nat.le_of_ble_eq_true rfl⟩) xo_this rfl (Nat.le_of_ble_eq_true rfl) dX_compact_1 (fun S1 => xw_ad _ S1) rfl (fun r2 S1 hs => ?_)
  exact gx_iret C hr hlocks dX_compact_4 hs
set_option maxHeartbeats 4000000 in
set_option maxRecDepth 100000 in
theorem mt_X_compact (l : Launch) (dC : Nat → ClassId) (dI : Nat → Nat → Nat) (cI cZ : ClassId) (o : Nat → Nat) (W E : Nat) (S : GS) (post : Int32 → GS → Prop) (h : wp_X_compact W E [] S post) : MetI l yX_compact (Cond.code yX_compact cX_compact 1 (some .int) :: wsA) ({ frames := 3, cells := 0, slots := 0, locals := 93 }) (dC, dI) gx_cl [(cI, .int), (cZ, .boolean)] (xw cI cZ o W E) [.ref (o 0)] S post := by
  refine gx_metI (by decide) wsA_good (Nat.le_of_ble_eq_true rfl) ?_
  intro p e s m args below meth c A C hr hlocks
  refine h (vh_X_compact o (GV p l e { frames := 3, cells := 0, slots := 0, locals := 93 } s m args below meth c (MQ below (va_Qi post (GB (xw cI cZ o W E) (dC, dI) gx_cl [(cI, .int), (cZ, .boolean)] A) A) args s 0 0 A) 1 (dC, dI) gx_cl A (xw cI cZ o W E))) (fun h S xs hs => ?_)
  unfold sp_X_compact at hs
  split at hs
  · exact wk_X_compact_0 C hr hlocks _ hs
  · exact hs.elim
/-- CountedObjects.exists(I)Z: a step from head to head -/
def sp_X_exists (W E : Nat) (post : Int32 → GS → Prop) (V : Nat → GS → List Int32 → Prop) (h : Nat) (S : GS) (xs : List Int32) : Prop := match h, xs with
  | 0, [v1] => wp_X_isObject W E [v1] S (fun r2 S1 => (narrow .boolean (.int r2) = .int r2 ∧ post r2 S1))
  | _, _ => False
def wp_X_exists (W E : Nat) (xs : List Int32) (S : GS) (post : Int32 → GS → Prop) : Prop := ∀ V : Nat → GS → List Int32 → Prop, (∀ h S xs, sp_X_exists W E post V h S xs → V h S xs) → V 0 S xs
def vh_X_exists (o : Nat → Nat) (G : GS → Nat → List (Nat × Value) → List Value → Prop) (h : Nat) (S : GS) (xs : List Int32) : Prop := match h, xs with
  | 0, [v1] => G S 0 [(0, .ref (o 0)), (1, .int v1)] []
  | _, _ => True
set_option maxHeartbeats 4000000 in
set_option maxRecDepth 100000 in
theorem wk_X_exists_0 {l : Launch} {dC : Nat → ClassId} {dI : Nat → Nat → Nat} {cI cZ : ClassId} {o : Nat → Nat} {W E : Nat} {p : Program} {e : Env} {s : State} {m : MethodId} {args : Array Value} {below : List Frame} {meth : Method} {c : Code} {A : Nat → Prop} {post : Int32 → GS → Prop} (C : GC p s m args c cX_exists 2 RX wsA (dC, dI) gx_cl [(cI, .int), (cZ, .boolean)] A) (hr : meth.sig.returnType = (some .boolean)) (hlocks : meth.locks = false) (S : GS) (v1 : Int32) (hs : sp_X_exists W E post (vh_X_exists o (GV p l e { frames := 2, cells := 0, slots := 0, locals := 42 } s m args below meth c (MQ below (va_Qi post (GB (xw cI cZ o W E) (dC, dI) gx_cl [(cI, .int), (cZ, .boolean)] A) A) args s 0 0 A) 2 (dC, dI) gx_cl A (xw cI cZ o W E))) 0 S [v1]) : GV p l e { frames := 2, cells := 0, slots := 0, locals := 42 } s m args below meth c (MQ below (va_Qi post (GB (xw cI cZ o W E) (dC, dI) gx_cl [(cI, .int), (cZ, .boolean)] A) A) args s 0 0 A) 2 (dC, dI) gx_cl A (xw cI cZ o W E) S 0 [(0, .ref (o 0)), (1, .int v1)] [] := by
  refine gx_aload_n C dX_exists_0 0 rfl rfl ?_
  refine gx_iload_n C dX_exists_1 1 rfl rfl ?_
  refine gx_calli (As := [.int v1]) (rest := []) C (mt_X_isObject l dC dI cI cZ o W E _ _ _ hs) (gx_cwV C 1 ln_X_87 im_X_isObject se_X_isObject in_CountedObjects cd_X_isObject rfl rfl (by decide +kernel) ⟨Nat.le_of_ble_eq_true rfl, Nat.le_of_ble_eq_true rfl⟩) xo_this rfl (Nat.le_of_ble_eq_true rfl) dX_exists_2 (fun S1 => xw_ad _ S1) rfl (fun r2 S1 hs => ?_)
  exact gx_zret C hr hlocks dX_exists_5 hs.2 hs.1
set_option maxHeartbeats 4000000 in
set_option maxRecDepth 100000 in
theorem mt_X_exists (l : Launch) (dC : Nat → ClassId) (dI : Nat → Nat → Nat) (cI cZ : ClassId) (o : Nat → Nat) (W E : Nat) (v1 : Int32) (S : GS) (post : Int32 → GS → Prop) (h : wp_X_exists W E [v1] S post) : MetI l yX_exists (Cond.code yX_exists cX_exists 2 (some .boolean) :: wsA) ({ frames := 2, cells := 0, slots := 0, locals := 42 }) (dC, dI) gx_cl [(cI, .int), (cZ, .boolean)] (xw cI cZ o W E) [.ref (o 0), .int v1] S post := by
  refine gx_metI (by decide) wsA_good (Nat.le_of_ble_eq_true rfl) ?_
  intro p e s m args below meth c A C hr hlocks
  refine h (vh_X_exists o (GV p l e { frames := 2, cells := 0, slots := 0, locals := 42 } s m args below meth c (MQ below (va_Qi post (GB (xw cI cZ o W E) (dC, dI) gx_cl [(cI, .int), (cZ, .boolean)] A) A) args s 0 0 A) 2 (dC, dI) gx_cl A (xw cI cZ o W E))) (fun h S xs hs => ?_)
  unfold sp_X_exists at hs
  split at hs
  · exact wk_X_exists_0 C hr hlocks _ _ hs
  · exact hs.elim
/-- CountedObjects.count(I)I: a step from head to head -/
def sp_X_count (W E : Nat) (post : Int32 → GS → Prop) (V : Nat → GS → List Int32 → Prop) (h : Nat) (S : GS) (xs : List Int32) : Prop := match h, xs with
  | 0, [v1] => wp_X_isObject W E [v1] S (fun r2 S1 => ((r2 = 0 → post 0 S1) ∧ (¬ r2 = 0 → (vp_in (v1 / 2) (E + 1) ∧ post (S1 2 (v1 / 2).toNatClampNeg) S1))))
  | _, _ => False
def wp_X_count (W E : Nat) (xs : List Int32) (S : GS) (post : Int32 → GS → Prop) : Prop := ∀ V : Nat → GS → List Int32 → Prop, (∀ h S xs, sp_X_count W E post V h S xs → V h S xs) → V 0 S xs
def vh_X_count (o : Nat → Nat) (G : GS → Nat → List (Nat × Value) → List Value → Prop) (h : Nat) (S : GS) (xs : List Int32) : Prop := match h, xs with
  | 0, [v1] => G S 0 [(0, .ref (o 0)), (1, .int v1)] []
  | _, _ => True
set_option maxHeartbeats 4000000 in
set_option maxRecDepth 100000 in
theorem wk_X_count_0 {l : Launch} {dC : Nat → ClassId} {dI : Nat → Nat → Nat} {cI cZ : ClassId} {o : Nat → Nat} {W E : Nat} {p : Program} {e : Env} {s : State} {m : MethodId} {args : Array Value} {below : List Frame} {meth : Method} {c : Code} {A : Nat → Prop} {post : Int32 → GS → Prop} (C : GC p s m args c cX_count 2 RX wsA (dC, dI) gx_cl [(cI, .int), (cZ, .boolean)] A) (hr : meth.sig.returnType = (some .int)) (hlocks : meth.locks = false) (S : GS) (v1 : Int32) (hs : sp_X_count W E post (vh_X_count o (GV p l e { frames := 2, cells := 0, slots := 0, locals := 42 } s m args below meth c (MQ below (va_Qi post (GB (xw cI cZ o W E) (dC, dI) gx_cl [(cI, .int), (cZ, .boolean)] A) A) args s 0 0 A) 2 (dC, dI) gx_cl A (xw cI cZ o W E))) 0 S [v1]) : GV p l e { frames := 2, cells := 0, slots := 0, locals := 42 } s m args below meth c (MQ below (va_Qi post (GB (xw cI cZ o W E) (dC, dI) gx_cl [(cI, .int), (cZ, .boolean)] A) A) args s 0 0 A) 2 (dC, dI) gx_cl A (xw cI cZ o W E) S 0 [(0, .ref (o 0)), (1, .int v1)] [] := by
  refine gx_aload_n C dX_count_0 0 rfl rfl ?_
  refine gx_iload_n C dX_count_1 1 rfl rfl ?_
  refine gx_calli (As := [.int v1]) (rest := []) C (mt_X_isObject l dC dI cI cZ o W E _ _ _ hs) (gx_cwV C 1 ln_X_87 im_X_isObject se_X_isObject in_CountedObjects cd_X_isObject rfl rfl (by decide +kernel) ⟨Nat.le_of_ble_eq_true rfl, Nat.le_of_ble_eq_true rfl⟩) xo_this rfl (Nat.le_of_ble_eq_true rfl) dX_count_2 (fun S1 => xw_ad _ S1) rfl (fun r2 S1 hs => ?_)
  obtain ⟨ht, hf⟩ := hs
  refine gx_if_eq C dX_count_5 19 rfl (fun hc => ?_) (fun hc => ?_)
  · have hs := ht hc
    refine gx_iconst (v := 0) C dX_count_19 (by decide) ?_
    exact gx_iret C hr hlocks dX_count_20 hs
  · have hs := hf hc
    refine gx_aload_n C dX_count_8 0 rfl rfl ?_
    refine gx_get C xo_this hi_X 2 (by decide) fl_X_25 rfl dX_count_9 ?_
    refine gx_iload_n C dX_count_12 1 rfl rfl ?_
    refine gx_iconst (v := 2) C dX_count_13 (by decide) ?_
    refine gx_idiv C dX_count_14 (by decide) ?_
    obtain ⟨hin, hs⟩ := hs
    refine gx_iald C xa_counts hin dX_count_15 ?_
    refine gx_goto C dX_count_16 20 rfl ?_
    exact gx_iret C hr hlocks dX_count_20 hs
set_option maxHeartbeats 4000000 in
set_option maxRecDepth 100000 in
theorem mt_X_count (l : Launch) (dC : Nat → ClassId) (dI : Nat → Nat → Nat) (cI cZ : ClassId) (o : Nat → Nat) (W E : Nat) (v1 : Int32) (S : GS) (post : Int32 → GS → Prop) (h : wp_X_count W E [v1] S post) : MetI l yX_count (Cond.code yX_count cX_count 2 (some .int) :: wsA) ({ frames := 2, cells := 0, slots := 0, locals := 42 }) (dC, dI) gx_cl [(cI, .int), (cZ, .boolean)] (xw cI cZ o W E) [.ref (o 0), .int v1] S post := by
  refine gx_metI (by decide) wsA_good (Nat.le_of_ble_eq_true rfl) ?_
  intro p e s m args below meth c A C hr hlocks
  refine h (vh_X_count o (GV p l e { frames := 2, cells := 0, slots := 0, locals := 42 } s m args below meth c (MQ below (va_Qi post (GB (xw cI cZ o W E) (dC, dI) gx_cl [(cI, .int), (cZ, .boolean)] A) A) args s 0 0 A) 2 (dC, dI) gx_cl A (xw cI cZ o W E))) (fun h S xs hs => ?_)
  unfold sp_X_count at hs
  split at hs
  · exact wk_X_count_0 C hr hlocks _ _ hs
  · exact hs.elim
/-- CountedObjects.address(I)I: a step from head to head -/
def sp_X_address (W E : Nat) (post : Int32 → GS → Prop) (V : Nat → GS → List Int32 → Prop) (h : Nat) (S : GS) (xs : List Int32) : Prop := match h, xs with
  | 0, [v1] => wp_X_isObject W E [v1] S (fun r2 S1 => ((r2 = 0 → post (-1) S1) ∧ (¬ r2 = 0 → (vp_in (v1 / 2) (E + 1) ∧ post (S1 1 (v1 / 2).toNatClampNeg) S1))))
  | _, _ => False
def wp_X_address (W E : Nat) (xs : List Int32) (S : GS) (post : Int32 → GS → Prop) : Prop := ∀ V : Nat → GS → List Int32 → Prop, (∀ h S xs, sp_X_address W E post V h S xs → V h S xs) → V 0 S xs
def vh_X_address (o : Nat → Nat) (G : GS → Nat → List (Nat × Value) → List Value → Prop) (h : Nat) (S : GS) (xs : List Int32) : Prop := match h, xs with
  | 0, [v1] => G S 0 [(0, .ref (o 0)), (1, .int v1)] []
  | _, _ => True
set_option maxHeartbeats 4000000 in
set_option maxRecDepth 100000 in
theorem wk_X_address_0 {l : Launch} {dC : Nat → ClassId} {dI : Nat → Nat → Nat} {cI cZ : ClassId} {o : Nat → Nat} {W E : Nat} {p : Program} {e : Env} {s : State} {m : MethodId} {args : Array Value} {below : List Frame} {meth : Method} {c : Code} {A : Nat → Prop} {post : Int32 → GS → Prop} (C : GC p s m args c cX_address 2 RX wsA (dC, dI) gx_cl [(cI, .int), (cZ, .boolean)] A) (hr : meth.sig.returnType = (some .int)) (hlocks : meth.locks = false) (S : GS) (v1 : Int32) (hs : sp_X_address W E post (vh_X_address o (GV p l e { frames := 2, cells := 0, slots := 0, locals := 42 } s m args below meth c (MQ below (va_Qi post (GB (xw cI cZ o W E) (dC, dI) gx_cl [(cI, .int), (cZ, .boolean)] A) A) args s 0 0 A) 2 (dC, dI) gx_cl A (xw cI cZ o W E))) 0 S [v1]) : GV p l e { frames := 2, cells := 0, slots := 0, locals := 42 } s m args below meth c (MQ below (va_Qi post (GB (xw cI cZ o W E) (dC, dI) gx_cl [(cI, .int), (cZ, .boolean)] A) A) args s 0 0 A) 2 (dC, dI) gx_cl A (xw cI cZ o W E) S 0 [(0, .ref (o 0)), (1, .int v1)] [] := by
  refine gx_aload_n C dX_address_0 0 rfl rfl ?_
  refine gx_iload_n C dX_address_1 1 rfl rfl ?_
  refine gx_calli (As := [.int v1]) (rest := []) C (mt_X_isObject l dC dI cI cZ o W E _ _ _ hs) (gx_cwV C 1 ln_X_87 im_X_isObject se_X_isObject in_CountedObjects cd_X_isObject rfl rfl (by decide +kernel) ⟨Nat.le_of_ble_eq_true rfl, Nat.le_of_ble_eq_true rfl⟩) xo_this rfl (Nat.le_of_ble_eq_true rfl) dX_address_2 (fun S1 => xw_ad _ S1) rfl (fun r2 S1 hs => ?_)
  obtain ⟨ht, hf⟩ := hs
  refine gx_if_eq C dX_address_5 19 rfl (fun hc => ?_) (fun hc => ?_)
  · have hs := ht hc
    refine gx_iconst (v := (-1)) C dX_address_19 (by decide) ?_
    exact gx_iret C hr hlocks dX_address_20 hs
  · have hs := hf hc
    refine gx_aload_n C dX_address_8 0 rfl rfl ?_
    refine gx_get C xo_this hi_X 1 (by decide) fl_X_22 rfl dX_address_9 ?_
    refine gx_iload_n C dX_address_12 1 rfl rfl ?_
    refine gx_iconst (v := 2) C dX_address_13 (by decide) ?_
    refine gx_idiv C dX_address_14 (by decide) ?_
    obtain ⟨hin, hs⟩ := hs
    refine gx_iald C xa_addresses hin dX_address_15 ?_
    refine gx_goto C dX_address_16 20 rfl ?_
    exact gx_iret C hr hlocks dX_address_20 hs
set_option maxHeartbeats 4000000 in
set_option maxRecDepth 100000 in
theorem mt_X_address (l : Launch) (dC : Nat → ClassId) (dI : Nat → Nat → Nat) (cI cZ : ClassId) (o : Nat → Nat) (W E : Nat) (v1 : Int32) (S : GS) (post : Int32 → GS → Prop) (h : wp_X_address W E [v1] S post) : MetI l yX_address (Cond.code yX_address cX_address 2 (some .int) :: wsA) ({ frames := 2, cells := 0, slots := 0, locals := 42 }) (dC, dI) gx_cl [(cI, .int), (cZ, .boolean)] (xw cI cZ o W E) [.ref (o 0), .int v1] S post := by
  refine gx_metI (by decide) wsA_good (Nat.le_of_ble_eq_true rfl) ?_
  intro p e s m args below meth c A C hr hlocks
  refine h (vh_X_address o (GV p l e { frames := 2, cells := 0, slots := 0, locals := 42 } s m args below meth c (MQ below (va_Qi post (GB (xw cI cZ o W E) (dC, dI) gx_cl [(cI, .int), (cZ, .boolean)] A) A) args s 0 0 A) 2 (dC, dI) gx_cl A (xw cI cZ o W E))) (fun h S xs hs => ?_)
  unfold sp_X_address at hs
  split at hs
  · exact wk_X_address_0 C hr hlocks _ _ hs
  · exact hs.elim
/-- CountedObjects.free()I: a step from head to head -/
def sp_X_free (W E : Nat) (post : Int32 → GS → Prop) (V : Nat → GS → List Int32 → Prop) (h : Nat) (S : GS) (xs : List Int32) : Prop := match h, xs with
  | 0, [] => wp_F_allWords W E [] S (fun r2 S1 => post r2 S1)
  | _, _ => False
def wp_X_free (W E : Nat) (xs : List Int32) (S : GS) (post : Int32 → GS → Prop) : Prop := ∀ V : Nat → GS → List Int32 → Prop, (∀ h S xs, sp_X_free W E post V h S xs → V h S xs) → V 0 S xs
def vh_X_free (o : Nat → Nat) (G : GS → Nat → List (Nat × Value) → List Value → Prop) (h : Nat) (S : GS) (xs : List Int32) : Prop := match h, xs with
  | 0, [] => G S 0 [(0, .ref (o 0))] []
  | _, _ => True
set_option maxHeartbeats 4000000 in
set_option maxRecDepth 100000 in
theorem wk_X_free_0 {l : Launch} {dC : Nat → ClassId} {dI : Nat → Nat → Nat} {cI cZ : ClassId} {o : Nat → Nat} {W E : Nat} {p : Program} {e : Env} {s : State} {m : MethodId} {args : Array Value} {below : List Frame} {meth : Method} {c : Code} {A : Nat → Prop} {post : Int32 → GS → Prop} (C : GC p s m args c cX_free 1 RX wsA (dC, dI) gx_cl [(cI, .int), (cZ, .boolean)] A) (hr : meth.sig.returnType = (some .int)) (hlocks : meth.locks = false) (S : GS) (hs : sp_X_free W E post (vh_X_free o (GV p l e { frames := 1, cells := 0, slots := 0, locals := 22 } s m args below meth c (MQ below (va_Qi post (GB (xw cI cZ o W E) (dC, dI) gx_cl [(cI, .int), (cZ, .boolean)] A) A) args s 0 0 A) 1 (dC, dI) gx_cl A (xw cI cZ o W E))) 0 S []) : GV p l e { frames := 1, cells := 0, slots := 0, locals := 22 } s m args below meth c (MQ below (va_Qi post (GB (xw cI cZ o W E) (dC, dI) gx_cl [(cI, .int), (cZ, .boolean)] A) A) args s 0 0 A) 1 (dC, dI) gx_cl A (xw cI cZ o W E) S 0 [(0, .ref (o 0))] [] := by
  refine gx_aload_n C dX_free_0 0 rfl rfl ?_
  refine gx_get C xo_this hi_X 4 (by decide) fl_X_36 rfl dX_free_1 ?_
  refine gx_calli (As := []) (rest := []) C (mt_F_allWords l dC dI cI cZ o W E _ _ hs) (gx_cwV C 0 ln_X_117 im_F_allWords se_F_allWords in_CountedObjects_FreeChunks cd_F_allWords rfl rfl (by decide +kernel) ⟨Nat.le_of_ble_eq_true rfl, Nat.le_of_ble_eq_true rfl⟩) xo_fc rfl (Nat.le_of_ble_eq_true rfl) dX_free_4 (fun S1 => xw_ad _ S1) rfl (fun r2 S1 hs => ?_)
  exact gx_iret C hr hlocks dX_free_7 hs
set_option maxHeartbeats 4000000 in
set_option maxRecDepth 100000 in
theorem mt_X_free (l : Launch) (dC : Nat → ClassId) (dI : Nat → Nat → Nat) (cI cZ : ClassId) (o : Nat → Nat) (W E : Nat) (S : GS) (post : Int32 → GS → Prop) (h : wp_X_free W E [] S post) : MetI l yX_free (Cond.code yX_free cX_free 1 (some .int) :: wsA) ({ frames := 1, cells := 0, slots := 0, locals := 22 }) (dC, dI) gx_cl [(cI, .int), (cZ, .boolean)] (xw cI cZ o W E) [.ref (o 0)] S post := by
  refine gx_metI (by decide) wsA_good (Nat.le_of_ble_eq_true rfl) ?_
  intro p e s m args below meth c A C hr hlocks
  refine h (vh_X_free o (GV p l e { frames := 1, cells := 0, slots := 0, locals := 22 } s m args below meth c (MQ below (va_Qi post (GB (xw cI cZ o W E) (dC, dI) gx_cl [(cI, .int), (cZ, .boolean)] A) A) args s 0 0 A) 1 (dC, dI) gx_cl A (xw cI cZ o W E))) (fun h S xs hs => ?_)
  unfold sp_X_free at hs
  split at hs
  · exact wk_X_free_0 C hr hlocks _ hs
  · exact hs.elim
/-- CountedObjects.objects()I: a step from head to head -/
def sp_X_objects (W E : Nat) (post : Int32 → GS → Prop) (V : Nat → GS → List Int32 → Prop) (h : Nat) (S : GS) (xs : List Int32) : Prop := match h, xs with
  | 0, [] => ∀ y1 : Int32, y1 = 0 → ∀ y2 : Int32, y2 = 1 → V 4 S [y1, y2]
  | 4, [v1, v2] => (((nI (E + 1)) ≤ v2 → post v1 S) ∧ (¬ (nI (E + 1)) ≤ v2 → wp_X_isUsed W E [v2] S (fun r2 S1 => ((r2 = 0 → (∀ y3 : Int32, y3 = v2 + 1 → V 4 S1 [v1, y3])) ∧ (¬ r2 = 0 → (∀ y4 : Int32, y4 = v1 + 1 → (∀ y5 : Int32, y5 = v2 + 1 → V 4 S1 [y4, y5])))))))
  | _, _ => False
def wp_X_objects (W E : Nat) (xs : List Int32) (S : GS) (post : Int32 → GS → Prop) : Prop := ∀ V : Nat → GS → List Int32 → Prop, (∀ h S xs, sp_X_objects W E post V h S xs → V h S xs) → V 0 S xs
def vh_X_objects (o : Nat → Nat) (G : GS → Nat → List (Nat × Value) → List Value → Prop) (h : Nat) (S : GS) (xs : List Int32) : Prop := match h, xs with
  | 0, [] => G S 0 [(0, .ref (o 0))] []
  | 4, [v1, v2] => G S 4 [(0, .ref (o 0)), (1, .int v1), (2, .int v2)] []
  | _, _ => True
set_option maxHeartbeats 4000000 in
set_option maxRecDepth 100000 in
theorem wk_X_objects_0 {l : Launch} {dC : Nat → ClassId} {dI : Nat → Nat → Nat} {cI cZ : ClassId} {o : Nat → Nat} {W E : Nat} {p : Program} {e : Env} {s : State} {m : MethodId} {args : Array Value} {below : List Frame} {meth : Method} {c : Code} {A : Nat → Prop} {post : Int32 → GS → Prop} (C : GC p s m args c cX_objects 3 RX wsA (dC, dI) gx_cl [(cI, .int), (cZ, .boolean)] A) (hr : meth.sig.returnType = (some .int)) (hlocks : meth.locks = false) (S : GS) (hs : sp_X_objects W E post (vh_X_objects o (GV p l e { frames := 1, cells := 0, slots := 0, locals := 21 } s m args below meth c (MQ below (va_Qi post (GB (xw cI cZ o W E) (dC, dI) gx_cl [(cI, .int), (cZ, .boolean)] A) A) args s 0 0 A) 3 (dC, dI) gx_cl A (xw cI cZ o W E))) 0 S []) : GV p l e { frames := 1, cells := 0, slots := 0, locals := 21 } s m args below meth c (MQ below (va_Qi post (GB (xw cI cZ o W E) (dC, dI) gx_cl [(cI, .int), (cZ, .boolean)] A) A) args s 0 0 A) 3 (dC, dI) gx_cl A (xw cI cZ o W E) S 0 [(0, .ref (o 0))] [] := by
  refine gx_iconst (v := 0) C dX_objects_0 (by decide) ?_
  refine gx_top (fun y1 ey1 => ?_)
  replace hs := hs y1 ey1
  refine gx_istore_n (L' := [(1, .int y1), (0, .ref (o 0))]) C dX_objects_1 rfl (by decide) rfl ?_
  refine gx_iconst (v := 1) C dX_objects_2 (by decide) ?_
  refine gx_top (fun y2 ey2 => ?_)
  replace hs := hs y2 ey2
  refine gx_istore_n (L' := [(2, .int y2), (1, .int y1), (0, .ref (o 0))]) C dX_objects_3 rfl (by decide) rfl ?_
  exact gx_sub [2, 1, 0] rfl hs
set_option maxHeartbeats 4000000 in
set_option maxRecDepth 100000 in
theorem wk_X_objects_4 {l : Launch} {dC : Nat → ClassId} {dI : Nat → Nat → Nat} {cI cZ : ClassId} {o : Nat → Nat} {W E : Nat} {p : Program} {e : Env} {s : State} {m : MethodId} {args : Array Value} {below : List Frame} {meth : Method} {c : Code} {A : Nat → Prop} {post : Int32 → GS → Prop} (C : GC p s m args c cX_objects 3 RX wsA (dC, dI) gx_cl [(cI, .int), (cZ, .boolean)] A) (hr : meth.sig.returnType = (some .int)) (hlocks : meth.locks = false) (S : GS) (v1 : Int32) (v2 : Int32) (hs : sp_X_objects W E post (vh_X_objects o (GV p l e { frames := 1, cells := 0, slots := 0, locals := 21 } s m args below meth c (MQ below (va_Qi post (GB (xw cI cZ o W E) (dC, dI) gx_cl [(cI, .int), (cZ, .boolean)] A) A) args s 0 0 A) 3 (dC, dI) gx_cl A (xw cI cZ o W E))) 4 S [v1, v2]) : GV p l e { frames := 1, cells := 0, slots := 0, locals := 21 } s m args below meth c (MQ below (va_Qi post (GB (xw cI cZ o W E) (dC, dI) gx_cl [(cI, .int), (cZ, .boolean)] A) A) args s 0 0 A) 3 (dC, dI) gx_cl A (xw cI cZ o W E) S 4 [(0, .ref (o 0)), (1, .int v1), (2, .int v2)] [] := by
  refine gx_iload_n C dX_objects_4 2 rfl rfl ?_
  refine gx_aload_n C dX_objects_5 0 rfl rfl ?_
  refine gx_get C xo_this hi_X 1 (by decide) fl_X_22 rfl dX_objects_6 ?_
  refine gx_alen C xa_addresses dX_objects_9 ?_
  obtain ⟨ht, hf⟩ := hs
  refine gx_icmp_ge C dX_objects_10 30 rfl (fun hc => ?_) (fun hc => ?_)
  · have hs := ht hc
    refine gx_iload_n C dX_objects_30 1 rfl rfl ?_
    exact gx_iret C hr hlocks dX_objects_31 hs
  · have hs := hf hc
    refine gx_aload_n C dX_objects_13 0 rfl rfl ?_
    refine gx_iload_n C dX_objects_14 2 rfl rfl ?_
    refine gx_calli (As := [.int v2]) (rest := []) C (mt_X_isUsed l dC dI cI cZ o W E _ _ _ hs) (gx_cwV C 1 ln_X_120 im_X_isUsed se_X_isUsed in_CountedObjects cd_X_isUsed rfl rfl (by decide +kernel) ⟨Nat.le_of_ble_eq_true rfl, Nat.le_of_ble_eq_true rfl⟩) xo_this rfl (Nat.le_of_ble_eq_true rfl) dX_objects_15 (fun S1 => xw_ad _ S1) rfl (fun r2 S1 hs => ?_)
    obtain ⟨ht, hf⟩ := hs
    refine gx_if_eq C dX_objects_18 24 rfl (fun hc => ?_) (fun hc => ?_)
    · have hs := ht hc
      refine gx_iinc (v0 := 1) (f := fun v => [(2, .int v), (0, .ref (o 0)), (1, .int v1)]) C dX_objects_24 2 rfl (by decide) (by decide) (fun _ => rfl) (fun y3 ey3 => ?_)
      replace hs := hs y3 ey3
      refine gx_goto C dX_objects_27 4 rfl ?_
      exact gx_sub [1, 2, 0] rfl hs
    · have hs := hf hc
      refine gx_iinc (v0 := 1) (f := fun v => [(1, .int v), (0, .ref (o 0)), (2, .int v2)]) C dX_objects_21 1 rfl (by decide) (by decide) (fun _ => rfl) (fun y4 ey4 => ?_)
      replace hs := hs y4 ey4
      refine gx_iinc (v0 := 1) (f := fun v => [(2, .int v), (1, .int y4), (0, .ref (o 0))]) C dX_objects_24 2 rfl (by decide) (by decide) (fun _ => rfl) (fun y5 ey5 => ?_)
      replace hs := hs y5 ey5
      refine gx_goto C dX_objects_27 4 rfl ?_
      exact gx_sub [2, 1, 0] rfl hs
set_option maxHeartbeats 4000000 in
set_option maxRecDepth 100000 in
theorem mt_X_objects (l : Launch) (dC : Nat → ClassId) (dI : Nat → Nat → Nat) (cI cZ : ClassId) (o : Nat → Nat) (W E : Nat) (S : GS) (post : Int32 → GS → Prop) (h : wp_X_objects W E [] S post) : MetI l yX_objects (Cond.code yX_objects cX_objects 3 (some .int) :: wsA) ({ frames := 1, cells := 0, slots := 0, locals := 21 }) (dC, dI) gx_cl [(cI, .int), (cZ, .boolean)] (xw cI cZ o W E) [.ref (o 0)] S post := by
  refine gx_metI (by decide) wsA_good (Nat.le_of_ble_eq_true rfl) ?_
  intro p e s m args below meth c A C hr hlocks
  refine h (vh_X_objects o (GV p l e { frames := 1, cells := 0, slots := 0, locals := 21 } s m args below meth c (MQ below (va_Qi post (GB (xw cI cZ o W E) (dC, dI) gx_cl [(cI, .int), (cZ, .boolean)] A) A) args s 0 0 A) 3 (dC, dI) gx_cl A (xw cI cZ o W E))) (fun h S xs hs => ?_)
  unfold sp_X_objects at hs
  split at hs
  · exact wk_X_objects_0 C hr hlocks _ hs
  · exact wk_X_objects_4 C hr hlocks _ _ _ hs
  · exact hs.elim
